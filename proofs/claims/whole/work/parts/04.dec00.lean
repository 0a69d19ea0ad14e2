theorem d_Id_init_0 : decode b_Id_init 0 = .ok (.aload_n 0, 1) := by decide +kernel
theorem d_Id_init_1 : decode b_Id_init 1 = .ok (.invokespecial 1, 3) := by decide +kernel
theorem d_Id_init_4 : decode b_Id_init 4 = .ok (.aload_n 0, 1) := by decide +kernel
theorem d_Id_init_5 : decode b_Id_init 5 = .ok (.bipush 40, 2) := by decide +kernel
theorem d_Id_init_7 : decode b_Id_init 7 = .ok (.newarray .int, 2) := by decide +kernel
theorem d_Id_init_9 : decode b_Id_init 9 = .ok (.putfield 9, 3) := by decide +kernel
theorem d_Id_init_12 : decode b_Id_init 12 = .ok (.aload_n 0, 1) := by decide +kernel
theorem d_Id_init_13 : decode b_Id_init 13 = .ok (.bipush 40, 2) := by decide +kernel
theorem d_Id_init_15 : decode b_Id_init 15 = .ok (.newarray .int, 2) := by decide +kernel
theorem d_Id_init_17 : decode b_Id_init 17 = .ok (.putfield 13, 3) := by decide +kernel
theorem d_Id_init_20 : decode b_Id_init 20 = .ok (.aload_n 0, 1) := by decide +kernel
theorem d_Id_init_21 : decode b_Id_init 21 = .ok (.bipush 40, 2) := by decide +kernel
theorem d_Id_init_23 : decode b_Id_init 23 = .ok (.newarray .long, 2) := by decide +kernel
theorem d_Id_init_25 : decode b_Id_init 25 = .ok (.putfield 16, 3) := by decide +kernel
theorem d_Id_init_28 : decode b_Id_init 28 = .ok (.aload_n 0, 1) := by decide +kernel
theorem d_Id_init_29 : decode b_Id_init 29 = .ok (.bipush 40, 2) := by decide +kernel
theorem d_Id_init_31 : decode b_Id_init 31 = .ok (.newarray .long, 2) := by decide +kernel
theorem d_Id_init_33 : decode b_Id_init 33 = .ok (.putfield 20, 3) := by decide +kernel
theorem d_Id_init_36 : decode b_Id_init 36 = .ok (.aload_n 0, 1) := by decide +kernel
theorem d_Id_init_37 : decode b_Id_init 37 = .ok (.iconst 0, 1) := by decide +kernel
theorem d_Id_init_38 : decode b_Id_init 38 = .ok (.putfield 23, 3) := by decide +kernel
theorem d_Id_init_41 : decode b_Id_init 41 = .ok (.aload_n 0, 1) := by decide +kernel
theorem d_Id_init_42 : decode b_Id_init 42 = .ok (.lconst 0, 1) := by decide +kernel
theorem d_Id_init_43 : decode b_Id_init 43 = .ok (.putfield 27, 3) := by decide +kernel
theorem d_Id_init_46 : decode b_Id_init 46 = .ok (.aload_n 0, 1) := by decide +kernel
theorem d_Id_init_47 : decode b_Id_init 47 = .ok (.iconst 0, 1) := by decide +kernel
theorem d_Id_init_48 : decode b_Id_init 48 = .ok (.putfield 31, 3) := by decide +kernel
theorem d_Id_init_51 : decode b_Id_init 51 = .ok (.return_, 1) := by decide +kernel
theorem d_Id_tally_0 : decode b_Id_tally 0 = .ok (.aload_n 1, 1) := by decide +kernel
theorem d_Id_tally_1 : decode b_Id_tally 1 = .ok (.getfield 34, 3) := by decide +kernel
theorem d_Id_tally_4 : decode b_Id_tally 4 = .ok (.bipush 18, 2) := by decide +kernel
theorem d_Id_tally_6 : decode b_Id_tally 6 = .ok (.invokestatic 39, 3) := by decide +kernel
theorem d_Id_tally_9 : decode b_Id_tally 9 = .ok (.istore_n 2, 1) := by decide +kernel
theorem d_Id_tally_10 : decode b_Id_tally 10 = .ok (.iconst 1, 1) := by decide +kernel
theorem d_Id_tally_11 : decode b_Id_tally 11 = .ok (.istore_n 3, 1) := by decide +kernel
theorem d_Id_tally_12 : decode b_Id_tally 12 = .ok (.aload_n 0, 1) := by decide +kernel
theorem d_Id_tally_13 : decode b_Id_tally 13 = .ok (.getfield 9, 3) := by decide +kernel
theorem d_Id_tally_16 : decode b_Id_tally 16 = .ok (.iconst 0, 1) := by decide +kernel
theorem d_Id_tally_17 : decode b_Id_tally 17 = .ok (.iconst 1, 1) := by decide +kernel
theorem d_Id_tally_18 : decode b_Id_tally 18 = .ok (.iload_n 2, 1) := by decide +kernel
theorem d_Id_tally_19 : decode b_Id_tally 19 = .ok (.ishl, 1) := by decide +kernel
theorem d_Id_tally_20 : decode b_Id_tally 20 = .ok (.iconst 1, 1) := by decide +kernel
theorem d_Id_tally_21 : decode b_Id_tally 21 = .ok (.isub, 1) := by decide +kernel
theorem d_Id_tally_22 : decode b_Id_tally 22 = .ok (.iastore, 1) := by decide +kernel
theorem d_Id_tally_23 : decode b_Id_tally 23 = .ok (.aload_n 0, 1) := by decide +kernel
theorem d_Id_tally_24 : decode b_Id_tally 24 = .ok (.getfield 16, 3) := by decide +kernel
theorem d_Id_tally_27 : decode b_Id_tally 27 = .ok (.iconst 0, 1) := by decide +kernel
theorem d_Id_tally_28 : decode b_Id_tally 28 = .ok (.lconst 1, 1) := by decide +kernel
theorem d_Id_tally_29 : decode b_Id_tally 29 = .ok (.lastore, 1) := by decide +kernel
theorem d_Id_tally_30 : decode b_Id_tally 30 = .ok (.aload_n 0, 1) := by decide +kernel
theorem d_Id_tally_31 : decode b_Id_tally 31 = .ok (.iconst 1, 1) := by decide +kernel
theorem d_Id_tally_32 : decode b_Id_tally 32 = .ok (.putfield 31, 3) := by decide +kernel
theorem d_Id_tally_35 : decode b_Id_tally 35 = .ok (.iconst 0, 1) := by decide +kernel
theorem d_Id_tally_36 : decode b_Id_tally 36 = .ok (.istore 4, 2) := by decide +kernel
theorem d_Id_tally_38 : decode b_Id_tally 38 = .ok (.iload 4, 2) := by decide +kernel
theorem d_Id_tally_40 : decode b_Id_tally 40 = .ok (.iload_n 2, 1) := by decide +kernel
theorem d_Id_tally_41 : decode b_Id_tally 41 = .ok (.if_icmp .ge 35, 3) := by decide +kernel
theorem d_Id_tally_44 : decode b_Id_tally 44 = .ok (.aload_n 0, 1) := by decide +kernel
theorem d_Id_tally_45 : decode b_Id_tally 45 = .ok (.aload_n 1, 1) := by decide +kernel
theorem d_Id_tally_46 : decode b_Id_tally 46 = .ok (.iload_n 3, 1) := by decide +kernel
theorem d_Id_tally_47 : decode b_Id_tally 47 = .ok (.iload_n 2, 1) := by decide +kernel
theorem d_Id_tally_48 : decode b_Id_tally 48 = .ok (.invokevirtual 45, 3) := by decide +kernel
theorem d_Id_tally_51 : decode b_Id_tally 51 = .ok (.aload_n 0, 1) := by decide +kernel
theorem d_Id_tally_52 : decode b_Id_tally 52 = .ok (.invokevirtual 49, 3) := by decide +kernel
theorem d_Id_tally_55 : decode b_Id_tally 55 = .ok (.aload_n 0, 1) := by decide +kernel
theorem d_Id_tally_56 : decode b_Id_tally 56 = .ok (.getfield 23, 3) := by decide +kernel
theorem d_Id_tally_59 : decode b_Id_tally 59 = .ok (.istore_n 3, 1) := by decide +kernel
theorem d_Id_tally_60 : decode b_Id_tally 60 = .ok (.aload_n 0, 1) := by decide +kernel
theorem d_Id_tally_61 : decode b_Id_tally 61 = .ok (.dup, 1) := by decide +kernel
theorem d_Id_tally_62 : decode b_Id_tally 62 = .ok (.getfield 31, 3) := by decide +kernel
theorem d_Id_tally_65 : decode b_Id_tally 65 = .ok (.iload_n 3, 1) := by decide +kernel
theorem d_Id_tally_66 : decode b_Id_tally 66 = .ok (.iadd, 1) := by decide +kernel
theorem d_Id_tally_67 : decode b_Id_tally 67 = .ok (.putfield 31, 3) := by decide +kernel
theorem d_Id_tally_70 : decode b_Id_tally 70 = .ok (.iinc 4 1, 3) := by decide +kernel
theorem d_Id_tally_73 : decode b_Id_tally 73 = .ok (.goto (-35), 3) := by decide +kernel
theorem d_Id_tally_76 : decode b_Id_tally 76 = .ok (.aload_n 0, 1) := by decide +kernel
theorem d_Id_tally_77 : decode b_Id_tally 77 = .ok (.aload_n 0, 1) := by decide +kernel
theorem d_Id_tally_78 : decode b_Id_tally 78 = .ok (.getfield 16, 3) := by decide +kernel
theorem d_Id_tally_81 : decode b_Id_tally 81 = .ok (.iconst 0, 1) := by decide +kernel
theorem d_Id_tally_82 : decode b_Id_tally 82 = .ok (.laload, 1) := by decide +kernel
theorem d_Id_tally_83 : decode b_Id_tally 83 = .ok (.putfield 27, 3) := by decide +kernel
theorem d_Id_tally_86 : decode b_Id_tally 86 = .ok (.return_, 1) := by decide +kernel
theorem d_Id_takeOff_0 : decode b_Id_takeOff 0 = .ok (.aload_n 0, 1) := by decide +kernel
theorem d_Id_takeOff_1 : decode b_Id_takeOff 1 = .ok (.iconst 0, 1) := by decide +kernel
theorem d_Id_takeOff_2 : decode b_Id_takeOff 2 = .ok (.putfield 23, 3) := by decide +kernel
theorem d_Id_takeOff_5 : decode b_Id_takeOff 5 = .ok (.iconst 0, 1) := by decide +kernel
theorem d_Id_takeOff_6 : decode b_Id_takeOff 6 = .ok (.istore 4, 2) := by decide +kernel
theorem d_Id_takeOff_8 : decode b_Id_takeOff 8 = .ok (.iload 4, 2) := by decide +kernel
theorem d_Id_takeOff_10 : decode b_Id_takeOff 10 = .ok (.iload_n 2, 1) := by decide +kernel
theorem d_Id_takeOff_11 : decode b_Id_takeOff 11 = .ok (.if_icmp .ge 81, 3) := by decide +kernel
theorem d_Id_takeOff_14 : decode b_Id_takeOff 14 = .ok (.iconst 0, 1) := by decide +kernel
theorem d_Id_takeOff_15 : decode b_Id_takeOff 15 = .ok (.istore 5, 2) := by decide +kernel
theorem d_Id_takeOff_17 : decode b_Id_takeOff 17 = .ok (.iload 5, 2) := by decide +kernel
theorem d_Id_takeOff_19 : decode b_Id_takeOff 19 = .ok (.iload_n 3, 1) := by decide +kernel
theorem d_Id_takeOff_20 : decode b_Id_takeOff 20 = .ok (.if_icmp .ge 66, 3) := by decide +kernel
theorem d_Id_takeOff_23 : decode b_Id_takeOff 23 = .ok (.aload_n 0, 1) := by decide +kernel
theorem d_Id_takeOff_24 : decode b_Id_takeOff 24 = .ok (.getfield 9, 3) := by decide +kernel
theorem d_Id_takeOff_27 : decode b_Id_takeOff 27 = .ok (.iload 4, 2) := by decide +kernel
theorem d_Id_takeOff_29 : decode b_Id_takeOff 29 = .ok (.iaload, 1) := by decide +kernel
theorem d_Id_takeOff_30 : decode b_Id_takeOff 30 = .ok (.iload 5, 2) := by decide +kernel
theorem d_Id_takeOff_32 : decode b_Id_takeOff 32 = .ok (.ishr, 1) := by decide +kernel
theorem d_Id_takeOff_33 : decode b_Id_takeOff 33 = .ok (.iconst 1, 1) := by decide +kernel
theorem d_Id_takeOff_34 : decode b_Id_takeOff 34 = .ok (.iand, 1) := by decide +kernel
theorem d_Id_takeOff_35 : decode b_Id_takeOff 35 = .ok (.iconst 1, 1) := by decide +kernel
theorem d_Id_takeOff_36 : decode b_Id_takeOff 36 = .ok (.if_icmp .ne 44, 3) := by decide +kernel
theorem d_Id_takeOff_39 : decode b_Id_takeOff 39 = .ok (.aload_n 1, 1) := by decide +kernel
theorem d_Id_takeOff_40 : decode b_Id_takeOff 40 = .ok (.iload 5, 2) := by decide +kernel
theorem d_Id_takeOff_42 : decode b_Id_takeOff 42 = .ok (.aload_n 0, 1) := by decide +kernel
theorem d_Id_takeOff_43 : decode b_Id_takeOff 43 = .ok (.getfield 9, 3) := by decide +kernel
theorem d_Id_takeOff_46 : decode b_Id_takeOff 46 = .ok (.iload 4, 2) := by decide +kernel
theorem d_Id_takeOff_48 : decode b_Id_takeOff 48 = .ok (.iaload, 1) := by decide +kernel
theorem d_Id_takeOff_49 : decode b_Id_takeOff 49 = .ok (.invokevirtual 52, 3) := by decide +kernel
theorem d_Id_takeOff_52 : decode b_Id_takeOff 52 = .ok (.ifCond .eq 28, 3) := by decide +kernel
theorem d_Id_takeOff_55 : decode b_Id_takeOff 55 = .ok (.aload_n 0, 1) := by decide +kernel
theorem d_Id_takeOff_56 : decode b_Id_takeOff 56 = .ok (.aload_n 0, 1) := by decide +kernel
theorem d_Id_takeOff_57 : decode b_Id_takeOff 57 = .ok (.getfield 9, 3) := by decide +kernel
theorem d_Id_takeOff_60 : decode b_Id_takeOff 60 = .ok (.iload 4, 2) := by decide +kernel
theorem d_Id_takeOff_62 : decode b_Id_takeOff 62 = .ok (.iaload, 1) := by decide +kernel
theorem d_Id_takeOff_63 : decode b_Id_takeOff 63 = .ok (.iconst 1, 1) := by decide +kernel
theorem d_Id_takeOff_64 : decode b_Id_takeOff 64 = .ok (.iload 5, 2) := by decide +kernel
theorem d_Id_takeOff_66 : decode b_Id_takeOff 66 = .ok (.ishl, 1) := by decide +kernel
theorem d_Id_takeOff_67 : decode b_Id_takeOff 67 = .ok (.iconst (-1), 1) := by decide +kernel
theorem d_Id_takeOff_68 : decode b_Id_takeOff 68 = .ok (.ixor, 1) := by decide +kernel
theorem d_Id_takeOff_69 : decode b_Id_takeOff 69 = .ok (.iand, 1) := by decide +kernel
theorem d_Id_takeOff_70 : decode b_Id_takeOff 70 = .ok (.aload_n 0, 1) := by decide +kernel
theorem d_Id_takeOff_71 : decode b_Id_takeOff 71 = .ok (.getfield 16, 3) := by decide +kernel
theorem d_Id_takeOff_74 : decode b_Id_takeOff 74 = .ok (.iload 4, 2) := by decide +kernel
theorem d_Id_takeOff_76 : decode b_Id_takeOff 76 = .ok (.laload, 1) := by decide +kernel
theorem d_Id_takeOff_77 : decode b_Id_takeOff 77 = .ok (.invokevirtual 56, 3) := by decide +kernel
theorem d_Id_takeOff_80 : decode b_Id_takeOff 80 = .ok (.iinc 5 1, 3) := by decide +kernel
theorem d_Id_takeOff_83 : decode b_Id_takeOff 83 = .ok (.goto (-66), 3) := by decide +kernel
theorem d_Id_takeOff_86 : decode b_Id_takeOff 86 = .ok (.iinc 4 1, 3) := by decide +kernel
theorem d_Id_takeOff_89 : decode b_Id_takeOff 89 = .ok (.goto (-81), 3) := by decide +kernel
theorem d_Id_takeOff_92 : decode b_Id_takeOff 92 = .ok (.return_, 1) := by decide +kernel
theorem d_Id_add_0 : decode b_Id_add 0 = .ok (.iconst 0, 1) := by decide +kernel
theorem d_Id_add_1 : decode b_Id_add 1 = .ok (.istore 4, 2) := by decide +kernel
theorem d_Id_add_3 : decode b_Id_add 3 = .ok (.iload 4, 2) := by decide +kernel
theorem d_Id_add_5 : decode b_Id_add 5 = .ok (.aload_n 0, 1) := by decide +kernel
theorem d_Id_add_6 : decode b_Id_add 6 = .ok (.getfield 23, 3) := by decide +kernel
theorem d_Id_add_9 : decode b_Id_add 9 = .ok (.if_icmp .ge 32, 3) := by decide +kernel
theorem d_Id_add_12 : decode b_Id_add 12 = .ok (.aload_n 0, 1) := by decide +kernel
theorem d_Id_add_13 : decode b_Id_add 13 = .ok (.getfield 13, 3) := by decide +kernel
theorem d_Id_add_16 : decode b_Id_add 16 = .ok (.iload 4, 2) := by decide +kernel
theorem d_Id_add_18 : decode b_Id_add 18 = .ok (.iaload, 1) := by decide +kernel
theorem d_Id_add_19 : decode b_Id_add 19 = .ok (.iload_n 1, 1) := by decide +kernel
theorem d_Id_add_20 : decode b_Id_add 20 = .ok (.if_icmp .ne 15, 3) := by decide +kernel
theorem d_Id_add_23 : decode b_Id_add 23 = .ok (.aload_n 0, 1) := by decide +kernel
theorem d_Id_add_24 : decode b_Id_add 24 = .ok (.getfield 20, 3) := by decide +kernel
theorem d_Id_add_27 : decode b_Id_add 27 = .ok (.iload 4, 2) := by decide +kernel
theorem d_Id_add_29 : decode b_Id_add 29 = .ok (.dup2, 1) := by decide +kernel
theorem d_Id_add_30 : decode b_Id_add 30 = .ok (.laload, 1) := by decide +kernel
theorem d_Id_add_31 : decode b_Id_add 31 = .ok (.lload_n 2, 1) := by decide +kernel
theorem d_Id_add_32 : decode b_Id_add 32 = .ok (.ladd, 1) := by decide +kernel
theorem d_Id_add_33 : decode b_Id_add 33 = .ok (.lastore, 1) := by decide +kernel
theorem d_Id_add_34 : decode b_Id_add 34 = .ok (.return_, 1) := by decide +kernel
theorem d_Id_add_35 : decode b_Id_add 35 = .ok (.iinc 4 1, 3) := by decide +kernel
theorem d_Id_add_38 : decode b_Id_add 38 = .ok (.goto (-35), 3) := by decide +kernel
theorem d_Id_add_41 : decode b_Id_add 41 = .ok (.aload_n 0, 1) := by decide +kernel
theorem d_Id_add_42 : decode b_Id_add 42 = .ok (.getfield 23, 3) := by decide +kernel
theorem d_Id_add_45 : decode b_Id_add 45 = .ok (.bipush 40, 2) := by decide +kernel
theorem d_Id_add_47 : decode b_Id_add 47 = .ok (.if_icmp .ge 33, 3) := by decide +kernel
theorem d_Id_add_50 : decode b_Id_add 50 = .ok (.aload_n 0, 1) := by decide +kernel
theorem d_Id_add_51 : decode b_Id_add 51 = .ok (.getfield 13, 3) := by decide +kernel
theorem d_Id_add_54 : decode b_Id_add 54 = .ok (.aload_n 0, 1) := by decide +kernel
theorem d_Id_add_55 : decode b_Id_add 55 = .ok (.getfield 23, 3) := by decide +kernel
theorem d_Id_add_58 : decode b_Id_add 58 = .ok (.iload_n 1, 1) := by decide +kernel
theorem d_Id_add_59 : decode b_Id_add 59 = .ok (.iastore, 1) := by decide +kernel
theorem d_Id_add_60 : decode b_Id_add 60 = .ok (.aload_n 0, 1) := by decide +kernel
theorem d_Id_add_61 : decode b_Id_add 61 = .ok (.getfield 20, 3) := by decide +kernel
theorem d_Id_add_64 : decode b_Id_add 64 = .ok (.aload_n 0, 1) := by decide +kernel
theorem d_Id_add_65 : decode b_Id_add 65 = .ok (.getfield 23, 3) := by decide +kernel
theorem d_Id_add_68 : decode b_Id_add 68 = .ok (.lload_n 2, 1) := by decide +kernel
theorem d_Id_add_69 : decode b_Id_add 69 = .ok (.lastore, 1) := by decide +kernel
theorem d_Id_add_70 : decode b_Id_add 70 = .ok (.aload_n 0, 1) := by decide +kernel
theorem d_Id_add_71 : decode b_Id_add 71 = .ok (.dup, 1) := by decide +kernel
theorem d_Id_add_72 : decode b_Id_add 72 = .ok (.getfield 23, 3) := by decide +kernel
theorem d_Id_add_75 : decode b_Id_add 75 = .ok (.iconst 1, 1) := by decide +kernel
theorem d_Id_add_76 : decode b_Id_add 76 = .ok (.iadd, 1) := by decide +kernel
theorem d_Id_add_77 : decode b_Id_add 77 = .ok (.putfield 23, 3) := by decide +kernel
theorem d_Id_add_80 : decode b_Id_add 80 = .ok (.return_, 1) := by decide +kernel
theorem d_Id_swap_0 : decode b_Id_swap 0 = .ok (.aload_n 0, 1) := by decide +kernel
theorem d_Id_swap_1 : decode b_Id_swap 1 = .ok (.getfield 9, 3) := by decide +kernel
theorem d_Id_swap_4 : decode b_Id_swap 4 = .ok (.astore_n 1, 1) := by decide +kernel
theorem d_Id_swap_5 : decode b_Id_swap 5 = .ok (.aload_n 0, 1) := by decide +kernel
theorem d_Id_swap_6 : decode b_Id_swap 6 = .ok (.aload_n 0, 1) := by decide +kernel
theorem d_Id_swap_7 : decode b_Id_swap 7 = .ok (.getfield 13, 3) := by decide +kernel
theorem d_Id_swap_10 : decode b_Id_swap 10 = .ok (.putfield 9, 3) := by decide +kernel
theorem d_Id_swap_13 : decode b_Id_swap 13 = .ok (.aload_n 0, 1) := by decide +kernel
theorem d_Id_swap_14 : decode b_Id_swap 14 = .ok (.aload_n 1, 1) := by decide +kernel
theorem d_Id_swap_15 : decode b_Id_swap 15 = .ok (.putfield 13, 3) := by decide +kernel
theorem d_Id_swap_18 : decode b_Id_swap 18 = .ok (.aload_n 0, 1) := by decide +kernel
theorem d_Id_swap_19 : decode b_Id_swap 19 = .ok (.getfield 16, 3) := by decide +kernel
theorem d_Id_swap_22 : decode b_Id_swap 22 = .ok (.astore_n 2, 1) := by decide +kernel
theorem d_Id_swap_23 : decode b_Id_swap 23 = .ok (.aload_n 0, 1) := by decide +kernel
theorem d_Id_swap_24 : decode b_Id_swap 24 = .ok (.aload_n 0, 1) := by decide +kernel
theorem d_Id_swap_25 : decode b_Id_swap 25 = .ok (.getfield 20, 3) := by decide +kernel
theorem d_Id_swap_28 : decode b_Id_swap 28 = .ok (.putfield 16, 3) := by decide +kernel
theorem d_Id_swap_31 : decode b_Id_swap 31 = .ok (.aload_n 0, 1) := by decide +kernel
theorem d_Id_swap_32 : decode b_Id_swap 32 = .ok (.aload_n 2, 1) := by decide +kernel
theorem d_Id_swap_33 : decode b_Id_swap 33 = .ok (.putfield 20, 3) := by decide +kernel
theorem d_Id_swap_36 : decode b_Id_swap 36 = .ok (.return_, 1) := by decide +kernel
theorem d_Qu_init_0 : decode b_Qu_init 0 = .ok (.aload_n 0, 1) := by decide +kernel
theorem d_Qu_init_1 : decode b_Qu_init 1 = .ok (.invokespecial 3, 3) := by decide +kernel
theorem d_Qu_init_4 : decode b_Qu_init 4 = .ok (.aload_n 0, 1) := by decide +kernel
theorem d_Qu_init_5 : decode b_Qu_init 5 = .ok (.sipush 166, 3) := by decide +kernel
theorem d_Qu_init_8 : decode b_Qu_init 8 = .ok (.newarray .int, 2) := by decide +kernel
theorem d_Qu_init_10 : decode b_Qu_init 10 = .ok (.putfield 11, 3) := by decide +kernel
theorem d_Qu_init_13 : decode b_Qu_init 13 = .ok (.aload_n 0, 1) := by decide +kernel
theorem d_Qu_init_14 : decode b_Qu_init 14 = .ok (.sipush 166, 3) := by decide +kernel
theorem d_Qu_init_17 : decode b_Qu_init 17 = .ok (.newarray .int, 2) := by decide +kernel
theorem d_Qu_init_19 : decode b_Qu_init 19 = .ok (.putfield 15, 3) := by decide +kernel
theorem d_Qu_init_22 : decode b_Qu_init 22 = .ok (.aload_n 0, 1) := by decide +kernel
theorem d_Qu_init_23 : decode b_Qu_init 23 = .ok (.sipush 830, 3) := by decide +kernel
theorem d_Qu_init_26 : decode b_Qu_init 26 = .ok (.newarray .int, 2) := by decide +kernel
theorem d_Qu_init_28 : decode b_Qu_init 28 = .ok (.putfield 18, 3) := by decide +kernel
theorem d_Qu_init_31 : decode b_Qu_init 31 = .ok (.aload_n 0, 1) := by decide +kernel
theorem d_Qu_init_32 : decode b_Qu_init 32 = .ok (.sipush 781, 3) := by decide +kernel
theorem d_Qu_init_35 : decode b_Qu_init 35 = .ok (.newarray .int, 2) := by decide +kernel
theorem d_Qu_init_37 : decode b_Qu_init 37 = .ok (.putfield 21, 3) := by decide +kernel
theorem d_Qu_init_40 : decode b_Qu_init 40 = .ok (.aload_n 0, 1) := by decide +kernel
theorem d_Qu_init_41 : decode b_Qu_init 41 = .ok (.sipush 166, 3) := by decide +kernel
theorem d_Qu_init_44 : decode b_Qu_init 44 = .ok (.newarray .int, 2) := by decide +kernel
theorem d_Qu_init_46 : decode b_Qu_init 46 = .ok (.putfield 24, 3) := by decide +kernel
theorem d_Qu_init_49 : decode b_Qu_init 49 = .ok (.aload_n 0, 1) := by decide +kernel
theorem d_Qu_init_50 : decode b_Qu_init 50 = .ok (.sipush 166, 3) := by decide +kernel
theorem d_Qu_init_53 : decode b_Qu_init 53 = .ok (.newarray .int, 2) := by decide +kernel
theorem d_Qu_init_55 : decode b_Qu_init 55 = .ok (.putfield 27, 3) := by decide +kernel
theorem d_Qu_init_58 : decode b_Qu_init 58 = .ok (.aload_n 0, 1) := by decide +kernel
theorem d_Qu_init_59 : decode b_Qu_init 59 = .ok (.bipush 20, 2) := by decide +kernel
theorem d_Qu_init_61 : decode b_Qu_init 61 = .ok (.newarray .int, 2) := by decide +kernel
theorem d_Qu_init_63 : decode b_Qu_init 63 = .ok (.putfield 30, 3) := by decide +kernel
theorem d_Qu_init_66 : decode b_Qu_init 66 = .ok (.aload_n 0, 1) := by decide +kernel
theorem d_Qu_init_67 : decode b_Qu_init 67 = .ok (.iconst 0, 1) := by decide +kernel
theorem d_Qu_init_68 : decode b_Qu_init 68 = .ok (.putfield 33, 3) := by decide +kernel
theorem d_Qu_init_71 : decode b_Qu_init 71 = .ok (.aload_n 0, 1) := by decide +kernel
theorem d_Qu_init_72 : decode b_Qu_init 72 = .ok (.iconst 0, 1) := by decide +kernel
theorem d_Qu_init_73 : decode b_Qu_init 73 = .ok (.putfield 37, 3) := by decide +kernel
theorem d_Qu_init_76 : decode b_Qu_init 76 = .ok (.aload_n 0, 1) := by decide +kernel
theorem d_Qu_init_77 : decode b_Qu_init 77 = .ok (.iconst 0, 1) := by decide +kernel
theorem d_Qu_init_78 : decode b_Qu_init 78 = .ok (.putfield 40, 3) := by decide +kernel
theorem d_Qu_init_81 : decode b_Qu_init 81 = .ok (.return_, 1) := by decide +kernel
theorem d_Qu_survey_0 : decode b_Qu_survey 0 = .ok (.aload_n 0, 1) := by decide +kernel
theorem d_Qu_survey_1 : decode b_Qu_survey 1 = .ok (.getfield 40, 3) := by decide +kernel
theorem d_Qu_survey_4 : decode b_Qu_survey 4 = .ok (.ifCond .le 4, 3) := by decide +kernel
theorem d_Qu_survey_7 : decode b_Qu_survey 7 = .ok (.return_, 1) := by decide +kernel
theorem d_Qu_survey_8 : decode b_Qu_survey 8 = .ok (.aload_n 0, 1) := by decide +kernel
theorem d_Qu_survey_9 : decode b_Qu_survey 9 = .ok (.getfield 21, 3) := by decide +kernel
theorem d_Qu_survey_12 : decode b_Qu_survey 12 = .ok (.iconst (-1), 1) := by decide +kernel
theorem d_Qu_survey_13 : decode b_Qu_survey 13 = .ok (.invokestatic 43, 3) := by decide +kernel
theorem d_Qu_survey_16 : decode b_Qu_survey 16 = .ok (.aload_n 0, 1) := by decide +kernel
theorem d_Qu_survey_17 : decode b_Qu_survey 17 = .ok (.iconst 0, 1) := by decide +kernel
theorem d_Qu_survey_18 : decode b_Qu_survey 18 = .ok (.iconst 0, 1) := by decide +kernel
theorem d_Qu_survey_19 : decode b_Qu_survey 19 = .ok (.invokevirtual 49, 3) := by decide +kernel
theorem d_Qu_survey_22 : decode b_Qu_survey 22 = .ok (.pop, 1) := by decide +kernel
theorem d_Qu_survey_23 : decode b_Qu_survey 23 = .ok (.iconst 0, 1) := by decide +kernel
theorem d_Qu_survey_24 : decode b_Qu_survey 24 = .ok (.istore_n 2, 1) := by decide +kernel
theorem d_Qu_survey_25 : decode b_Qu_survey 25 = .ok (.iload_n 2, 1) := by decide +kernel
theorem d_Qu_survey_26 : decode b_Qu_survey 26 = .ok (.sipush 166, 3) := by decide +kernel
theorem d_Qu_survey_29 : decode b_Qu_survey 29 = .ok (.if_icmp .ge 79, 3) := by decide +kernel
theorem d_Qu_survey_32 : decode b_Qu_survey 32 = .ok (.iload_n 2, 1) := by decide +kernel
theorem d_Qu_survey_33 : decode b_Qu_survey 33 = .ok (.aload_n 0, 1) := by decide +kernel
theorem d_Qu_survey_34 : decode b_Qu_survey 34 = .ok (.getfield 40, 3) := by decide +kernel
theorem d_Qu_survey_37 : decode b_Qu_survey 37 = .ok (.if_icmp .ge 71, 3) := by decide +kernel
theorem d_Qu_survey_40 : decode b_Qu_survey 40 = .ok (.iconst 0, 1) := by decide +kernel
theorem d_Qu_survey_41 : decode b_Qu_survey 41 = .ok (.istore_n 3, 1) := by decide +kernel
theorem d_Qu_survey_42 : decode b_Qu_survey 42 = .ok (.iload_n 3, 1) := by decide +kernel
theorem d_Qu_survey_43 : decode b_Qu_survey 43 = .ok (.iconst 5, 1) := by decide +kernel
theorem d_Qu_survey_44 : decode b_Qu_survey 44 = .ok (.if_icmp .ge 58, 3) := by decide +kernel
theorem d_Qu_survey_47 : decode b_Qu_survey 47 = .ok (.aload_n 1, 1) := by decide +kernel
theorem d_Qu_survey_48 : decode b_Qu_survey 48 = .ok (.aload_n 0, 1) := by decide +kernel
theorem d_Qu_survey_49 : decode b_Qu_survey 49 = .ok (.getfield 11, 3) := by decide +kernel
theorem d_Qu_survey_52 : decode b_Qu_survey 52 = .ok (.iload_n 2, 1) := by decide +kernel
theorem d_Qu_survey_53 : decode b_Qu_survey 53 = .ok (.iaload, 1) := by decide +kernel
theorem d_Qu_survey_54 : decode b_Qu_survey 54 = .ok (.invokevirtual 53, 3) := by decide +kernel
theorem d_Qu_survey_57 : decode b_Qu_survey 57 = .ok (.aload_n 1, 1) := by decide +kernel
theorem d_Qu_survey_58 : decode b_Qu_survey 58 = .ok (.iload_n 3, 1) := by decide +kernel
theorem d_Qu_survey_59 : decode b_Qu_survey 59 = .ok (.invokevirtual 59, 3) := by decide +kernel
theorem d_Qu_survey_62 : decode b_Qu_survey 62 = .ok (.aload_n 0, 1) := by decide +kernel
theorem d_Qu_survey_63 : decode b_Qu_survey 63 = .ok (.getfield 18, 3) := by decide +kernel
theorem d_Qu_survey_66 : decode b_Qu_survey 66 = .ok (.iload_n 2, 1) := by decide +kernel
theorem d_Qu_survey_67 : decode b_Qu_survey 67 = .ok (.iconst 5, 1) := by decide +kernel
theorem d_Qu_survey_68 : decode b_Qu_survey 68 = .ok (.imul, 1) := by decide +kernel
theorem d_Qu_survey_69 : decode b_Qu_survey 69 = .ok (.iload_n 3, 1) := by decide +kernel
theorem d_Qu_survey_70 : decode b_Qu_survey 70 = .ok (.iadd, 1) := by decide +kernel
theorem d_Qu_survey_71 : decode b_Qu_survey 71 = .ok (.aload_n 1, 1) := by decide +kernel
theorem d_Qu_survey_72 : decode b_Qu_survey 72 = .ok (.getfield 62, 3) := by decide +kernel
theorem d_Qu_survey_75 : decode b_Qu_survey 75 = .ok (.iconst 4, 1) := by decide +kernel
theorem d_Qu_survey_76 : decode b_Qu_survey 76 = .ok (.if_icmp .le 7, 3) := by decide +kernel
theorem d_Qu_survey_79 : decode b_Qu_survey 79 = .ok (.iconst (-1), 1) := by decide +kernel
theorem d_Qu_survey_80 : decode b_Qu_survey 80 = .ok (.goto 15, 3) := by decide +kernel
theorem d_Qu_survey_83 : decode b_Qu_survey 83 = .ok (.aload_n 0, 1) := by decide +kernel
theorem d_Qu_survey_84 : decode b_Qu_survey 84 = .ok (.aload_n 1, 1) := by decide +kernel
theorem d_Qu_survey_85 : decode b_Qu_survey 85 = .ok (.invokevirtual 63, 3) := by decide +kernel
theorem d_Qu_survey_88 : decode b_Qu_survey 88 = .ok (.aload_n 1, 1) := by decide +kernel
theorem d_Qu_survey_89 : decode b_Qu_survey 89 = .ok (.getfield 62, 3) := by decide +kernel
theorem d_Qu_survey_92 : decode b_Qu_survey 92 = .ok (.invokevirtual 49, 3) := by decide +kernel
theorem d_Qu_survey_95 : decode b_Qu_survey 95 = .ok (.iastore, 1) := by decide +kernel
theorem d_Qu_survey_96 : decode b_Qu_survey 96 = .ok (.iinc 3 1, 3) := by decide +kernel
theorem d_Qu_survey_99 : decode b_Qu_survey 99 = .ok (.goto (-57), 3) := by decide +kernel
theorem d_Qu_survey_102 : decode b_Qu_survey 102 = .ok (.iinc 2 1, 3) := by decide +kernel
theorem d_Qu_survey_105 : decode b_Qu_survey 105 = .ok (.goto (-80), 3) := by decide +kernel
theorem d_Qu_survey_108 : decode b_Qu_survey 108 = .ok (.return_, 1) := by decide +kernel
theorem d_Qu_numberOf_0 : decode b_Qu_numberOf 0 = .ok (.iload_n 1, 1) := by decide +kernel
theorem d_Qu_numberOf_1 : decode b_Qu_numberOf 1 = .ok (.invokestatic 67, 3) := by decide +kernel
theorem d_Qu_numberOf_4 : decode b_Qu_numberOf 4 = .ok (.istore_n 3, 1) := by decide +kernel
theorem d_Qu_numberOf_5 : decode b_Qu_numberOf 5 = .ok (.iload_n 3, 1) := by decide +kernel
theorem d_Qu_numberOf_6 : decode b_Qu_numberOf 6 = .ok (.ifCond .lt 10, 3) := by decide +kernel
theorem d_Qu_numberOf_9 : decode b_Qu_numberOf 9 = .ok (.iload_n 3, 1) := by decide +kernel
theorem d_Qu_numberOf_10 : decode b_Qu_numberOf 10 = .ok (.sipush 781, 3) := by decide +kernel
theorem d_Qu_numberOf_13 : decode b_Qu_numberOf 13 = .ok (.if_icmp .lt 5, 3) := by decide +kernel
theorem d_Qu_numberOf_16 : decode b_Qu_numberOf 16 = .ok (.iconst (-1), 1) := by decide +kernel
theorem d_Qu_numberOf_17 : decode b_Qu_numberOf 17 = .ok (.ireturn, 1) := by decide +kernel
theorem d_Qu_numberOf_18 : decode b_Qu_numberOf 18 = .ok (.aload_n 0, 1) := by decide +kernel
theorem d_Qu_numberOf_19 : decode b_Qu_numberOf 19 = .ok (.getfield 21, 3) := by decide +kernel
theorem d_Qu_numberOf_22 : decode b_Qu_numberOf 22 = .ok (.iload_n 3, 1) := by decide +kernel
theorem d_Qu_numberOf_23 : decode b_Qu_numberOf 23 = .ok (.iaload, 1) := by decide +kernel
theorem d_Qu_numberOf_24 : decode b_Qu_numberOf 24 = .ok (.iconst (-1), 1) := by decide +kernel
theorem d_Qu_numberOf_25 : decode b_Qu_numberOf 25 = .ok (.if_icmp .ne 53, 3) := by decide +kernel
theorem d_Qu_numberOf_28 : decode b_Qu_numberOf 28 = .ok (.aload_n 0, 1) := by decide +kernel
theorem d_Qu_numberOf_29 : decode b_Qu_numberOf 29 = .ok (.getfield 40, 3) := by decide +kernel
theorem d_Qu_numberOf_32 : decode b_Qu_numberOf 32 = .ok (.sipush 166, 3) := by decide +kernel
theorem d_Qu_numberOf_35 : decode b_Qu_numberOf 35 = .ok (.if_icmp .ge 43, 3) := by decide +kernel
theorem d_Qu_numberOf_38 : decode b_Qu_numberOf 38 = .ok (.aload_n 0, 1) := by decide +kernel
theorem d_Qu_numberOf_39 : decode b_Qu_numberOf 39 = .ok (.getfield 11, 3) := by decide +kernel
theorem d_Qu_numberOf_42 : decode b_Qu_numberOf 42 = .ok (.aload_n 0, 1) := by decide +kernel
theorem d_Qu_numberOf_43 : decode b_Qu_numberOf 43 = .ok (.getfield 40, 3) := by decide +kernel
theorem d_Qu_numberOf_46 : decode b_Qu_numberOf 46 = .ok (.iload_n 1, 1) := by decide +kernel
theorem d_Qu_numberOf_47 : decode b_Qu_numberOf 47 = .ok (.iastore, 1) := by decide +kernel
theorem d_Qu_numberOf_48 : decode b_Qu_numberOf 48 = .ok (.aload_n 0, 1) := by decide +kernel
theorem d_Qu_numberOf_49 : decode b_Qu_numberOf 49 = .ok (.getfield 15, 3) := by decide +kernel
theorem d_Qu_numberOf_52 : decode b_Qu_numberOf 52 = .ok (.aload_n 0, 1) := by decide +kernel
theorem d_Qu_numberOf_53 : decode b_Qu_numberOf 53 = .ok (.getfield 40, 3) := by decide +kernel
theorem d_Qu_numberOf_56 : decode b_Qu_numberOf 56 = .ok (.iload_n 2, 1) := by decide +kernel
theorem d_Qu_numberOf_57 : decode b_Qu_numberOf 57 = .ok (.iastore, 1) := by decide +kernel
theorem d_Qu_numberOf_58 : decode b_Qu_numberOf 58 = .ok (.aload_n 0, 1) := by decide +kernel
theorem d_Qu_numberOf_59 : decode b_Qu_numberOf 59 = .ok (.getfield 21, 3) := by decide +kernel
theorem d_Qu_numberOf_62 : decode b_Qu_numberOf 62 = .ok (.iload_n 3, 1) := by decide +kernel
theorem d_Qu_numberOf_63 : decode b_Qu_numberOf 63 = .ok (.aload_n 0, 1) := by decide +kernel
theorem d_Qu_numberOf_64 : decode b_Qu_numberOf 64 = .ok (.getfield 40, 3) := by decide +kernel
theorem d_Qu_numberOf_67 : decode b_Qu_numberOf 67 = .ok (.iastore, 1) := by decide +kernel
theorem d_Qu_numberOf_68 : decode b_Qu_numberOf 68 = .ok (.aload_n 0, 1) := by decide +kernel
theorem d_Qu_numberOf_69 : decode b_Qu_numberOf 69 = .ok (.dup, 1) := by decide +kernel
theorem d_Qu_numberOf_70 : decode b_Qu_numberOf 70 = .ok (.getfield 40, 3) := by decide +kernel
theorem d_Qu_numberOf_73 : decode b_Qu_numberOf 73 = .ok (.iconst 1, 1) := by decide +kernel
theorem d_Qu_numberOf_74 : decode b_Qu_numberOf 74 = .ok (.iadd, 1) := by decide +kernel
theorem d_Qu_numberOf_75 : decode b_Qu_numberOf 75 = .ok (.putfield 40, 3) := by decide +kernel
theorem d_Qu_numberOf_78 : decode b_Qu_numberOf 78 = .ok (.aload_n 0, 1) := by decide +kernel
theorem d_Qu_numberOf_79 : decode b_Qu_numberOf 79 = .ok (.getfield 21, 3) := by decide +kernel
theorem d_Qu_numberOf_82 : decode b_Qu_numberOf 82 = .ok (.iload_n 3, 1) := by decide +kernel
theorem d_Qu_numberOf_83 : decode b_Qu_numberOf 83 = .ok (.iaload, 1) := by decide +kernel
theorem d_Qu_numberOf_84 : decode b_Qu_numberOf 84 = .ok (.ireturn, 1) := by decide +kernel
theorem d_Qu_numberOfCode_0 : decode b_Qu_numberOfCode 0 = .ok (.iconst 0, 1) := by decide +kernel
theorem d_Qu_numberOfCode_1 : decode b_Qu_numberOfCode 1 = .ok (.istore_n 1, 1) := by decide +kernel
theorem d_Qu_numberOfCode_2 : decode b_Qu_numberOfCode 2 = .ok (.iconst 1, 1) := by decide +kernel
theorem d_Qu_numberOfCode_3 : decode b_Qu_numberOfCode 3 = .ok (.istore_n 2, 1) := by decide +kernel
theorem d_Qu_numberOfCode_4 : decode b_Qu_numberOfCode 4 = .ok (.iload_n 0, 1) := by decide +kernel
theorem d_Qu_numberOfCode_5 : decode b_Qu_numberOfCode 5 = .ok (.istore_n 3, 1) := by decide +kernel
theorem d_Qu_numberOfCode_6 : decode b_Qu_numberOfCode 6 = .ok (.iload_n 3, 1) := by decide +kernel
theorem d_Qu_numberOfCode_7 : decode b_Qu_numberOfCode 7 = .ok (.ifCond .le 24, 3) := by decide +kernel
theorem d_Qu_numberOfCode_10 : decode b_Qu_numberOfCode 10 = .ok (.iload_n 1, 1) := by decide +kernel
theorem d_Qu_numberOfCode_11 : decode b_Qu_numberOfCode 11 = .ok (.iload_n 3, 1) := by decide +kernel
theorem d_Qu_numberOfCode_12 : decode b_Qu_numberOfCode 12 = .ok (.bipush 10, 2) := by decide +kernel
theorem d_Qu_numberOfCode_14 : decode b_Qu_numberOfCode 14 = .ok (.irem, 1) := by decide +kernel
theorem d_Qu_numberOfCode_15 : decode b_Qu_numberOfCode 15 = .ok (.iload_n 2, 1) := by decide +kernel
theorem d_Qu_numberOfCode_16 : decode b_Qu_numberOfCode 16 = .ok (.imul, 1) := by decide +kernel
theorem d_Qu_numberOfCode_17 : decode b_Qu_numberOfCode 17 = .ok (.iadd, 1) := by decide +kernel
theorem d_Qu_numberOfCode_18 : decode b_Qu_numberOfCode 18 = .ok (.istore_n 1, 1) := by decide +kernel
theorem d_Qu_numberOfCode_19 : decode b_Qu_numberOfCode 19 = .ok (.iload_n 2, 1) := by decide +kernel
theorem d_Qu_numberOfCode_20 : decode b_Qu_numberOfCode 20 = .ok (.iconst 5, 1) := by decide +kernel
theorem d_Qu_numberOfCode_21 : decode b_Qu_numberOfCode 21 = .ok (.imul, 1) := by decide +kernel
theorem d_Qu_numberOfCode_22 : decode b_Qu_numberOfCode 22 = .ok (.istore_n 2, 1) := by decide +kernel
theorem d_Qu_numberOfCode_23 : decode b_Qu_numberOfCode 23 = .ok (.iload_n 3, 1) := by decide +kernel
theorem d_Qu_numberOfCode_24 : decode b_Qu_numberOfCode 24 = .ok (.bipush 10, 2) := by decide +kernel
theorem d_Qu_numberOfCode_26 : decode b_Qu_numberOfCode 26 = .ok (.idiv, 1) := by decide +kernel
theorem d_Qu_numberOfCode_27 : decode b_Qu_numberOfCode 27 = .ok (.istore_n 3, 1) := by decide +kernel
theorem d_Qu_numberOfCode_28 : decode b_Qu_numberOfCode 28 = .ok (.goto (-22), 3) := by decide +kernel
theorem d_Qu_numberOfCode_31 : decode b_Qu_numberOfCode 31 = .ok (.iload_n 1, 1) := by decide +kernel
theorem d_Qu_numberOfCode_32 : decode b_Qu_numberOfCode 32 = .ok (.ireturn, 1) := by decide +kernel
theorem d_Qu_addGuard_0 : decode b_Qu_addGuard 0 = .ok (.aload_n 0, 1) := by decide +kernel
theorem d_Qu_addGuard_1 : decode b_Qu_addGuard 1 = .ok (.getfield 37, 3) := by decide +kernel
theorem d_Qu_addGuard_4 : decode b_Qu_addGuard 4 = .ok (.bipush 20, 2) := by decide +kernel
theorem d_Qu_addGuard_6 : decode b_Qu_addGuard 6 = .ok (.if_icmp .lt 4, 3) := by decide +kernel
theorem d_Qu_addGuard_9 : decode b_Qu_addGuard 9 = .ok (.return_, 1) := by decide +kernel
theorem d_Qu_addGuard_10 : decode b_Qu_addGuard 10 = .ok (.iload_n 1, 1) := by decide +kernel
theorem d_Qu_addGuard_11 : decode b_Qu_addGuard 11 = .ok (.invokestatic 67, 3) := by decide +kernel
theorem d_Qu_addGuard_14 : decode b_Qu_addGuard 14 = .ok (.istore_n 2, 1) := by decide +kernel
theorem d_Qu_addGuard_15 : decode b_Qu_addGuard 15 = .ok (.aload_n 0, 1) := by decide +kernel
theorem d_Qu_addGuard_16 : decode b_Qu_addGuard 16 = .ok (.getfield 30, 3) := by decide +kernel
theorem d_Qu_addGuard_19 : decode b_Qu_addGuard 19 = .ok (.aload_n 0, 1) := by decide +kernel
theorem d_Qu_addGuard_20 : decode b_Qu_addGuard 20 = .ok (.getfield 37, 3) := by decide +kernel
theorem d_Qu_addGuard_23 : decode b_Qu_addGuard 23 = .ok (.iload_n 2, 1) := by decide +kernel
theorem d_Qu_addGuard_24 : decode b_Qu_addGuard 24 = .ok (.ifCond .lt 19, 3) := by decide +kernel
theorem d_Qu_addGuard_27 : decode b_Qu_addGuard 27 = .ok (.iload_n 2, 1) := by decide +kernel
theorem d_Qu_addGuard_28 : decode b_Qu_addGuard 28 = .ok (.sipush 781, 3) := by decide +kernel
theorem d_Qu_addGuard_31 : decode b_Qu_addGuard 31 = .ok (.if_icmp .ge 12, 3) := by decide +kernel
theorem d_Qu_addGuard_34 : decode b_Qu_addGuard 34 = .ok (.aload_n 0, 1) := by decide +kernel
theorem d_Qu_addGuard_35 : decode b_Qu_addGuard 35 = .ok (.getfield 21, 3) := by decide +kernel
theorem d_Qu_addGuard_38 : decode b_Qu_addGuard 38 = .ok (.iload_n 2, 1) := by decide +kernel
theorem d_Qu_addGuard_39 : decode b_Qu_addGuard 39 = .ok (.iaload, 1) := by decide +kernel
theorem d_Qu_addGuard_40 : decode b_Qu_addGuard 40 = .ok (.goto 4, 3) := by decide +kernel
theorem d_Qu_addGuard_43 : decode b_Qu_addGuard 43 = .ok (.iconst (-1), 1) := by decide +kernel
theorem d_Qu_addGuard_44 : decode b_Qu_addGuard 44 = .ok (.iastore, 1) := by decide +kernel
theorem d_Qu_addGuard_45 : decode b_Qu_addGuard 45 = .ok (.aload_n 0, 1) := by decide +kernel
theorem d_Qu_addGuard_46 : decode b_Qu_addGuard 46 = .ok (.dup, 1) := by decide +kernel
theorem d_Qu_addGuard_47 : decode b_Qu_addGuard 47 = .ok (.getfield 37, 3) := by decide +kernel
theorem d_Qu_addGuard_50 : decode b_Qu_addGuard 50 = .ok (.iconst 1, 1) := by decide +kernel
theorem d_Qu_addGuard_51 : decode b_Qu_addGuard 51 = .ok (.iadd, 1) := by decide +kernel
theorem d_Qu_addGuard_52 : decode b_Qu_addGuard 52 = .ok (.putfield 37, 3) := by decide +kernel
theorem d_Qu_addGuard_55 : decode b_Qu_addGuard 55 = .ok (.return_, 1) := by decide +kernel
theorem d_Qu_burn_0 : decode b_Qu_burn 0 = .ok (.aload_n 0, 1) := by decide +kernel
theorem d_Qu_burn_1 : decode b_Qu_burn 1 = .ok (.getfield 24, 3) := by decide +kernel
theorem d_Qu_burn_4 : decode b_Qu_burn 4 = .ok (.iconst 0, 1) := by decide +kernel
theorem d_Qu_burn_5 : decode b_Qu_burn 5 = .ok (.invokestatic 43, 3) := by decide +kernel
theorem d_Qu_burn_8 : decode b_Qu_burn 8 = .ok (.iconst 0, 1) := by decide +kernel
theorem d_Qu_burn_9 : decode b_Qu_burn 9 = .ok (.istore_n 3, 1) := by decide +kernel
theorem d_Qu_burn_10 : decode b_Qu_burn 10 = .ok (.iload_n 3, 1) := by decide +kernel
theorem d_Qu_burn_11 : decode b_Qu_burn 11 = .ok (.aload_n 0, 1) := by decide +kernel
theorem d_Qu_burn_12 : decode b_Qu_burn 12 = .ok (.getfield 37, 3) := by decide +kernel
theorem d_Qu_burn_15 : decode b_Qu_burn 15 = .ok (.if_icmp .ge 36, 3) := by decide +kernel
theorem d_Qu_burn_18 : decode b_Qu_burn 18 = .ok (.iload_n 3, 1) := by decide +kernel
theorem d_Qu_burn_19 : decode b_Qu_burn 19 = .ok (.iload_n 1, 1) := by decide +kernel
theorem d_Qu_burn_20 : decode b_Qu_burn 20 = .ok (.if_icmp .eq 25, 3) := by decide +kernel
theorem d_Qu_burn_23 : decode b_Qu_burn 23 = .ok (.aload_n 0, 1) := by decide +kernel
theorem d_Qu_burn_24 : decode b_Qu_burn 24 = .ok (.getfield 30, 3) := by decide +kernel
theorem d_Qu_burn_27 : decode b_Qu_burn 27 = .ok (.iload_n 3, 1) := by decide +kernel
theorem d_Qu_burn_28 : decode b_Qu_burn 28 = .ok (.iaload, 1) := by decide +kernel
theorem d_Qu_burn_29 : decode b_Qu_burn 29 = .ok (.iconst (-1), 1) := by decide +kernel
theorem d_Qu_burn_30 : decode b_Qu_burn 30 = .ok (.if_icmp .eq 15, 3) := by decide +kernel
theorem d_Qu_burn_33 : decode b_Qu_burn 33 = .ok (.aload_n 0, 1) := by decide +kernel
theorem d_Qu_burn_34 : decode b_Qu_burn 34 = .ok (.getfield 24, 3) := by decide +kernel
theorem d_Qu_burn_37 : decode b_Qu_burn 37 = .ok (.aload_n 0, 1) := by decide +kernel
theorem d_Qu_burn_38 : decode b_Qu_burn 38 = .ok (.getfield 30, 3) := by decide +kernel
theorem d_Qu_burn_41 : decode b_Qu_burn 41 = .ok (.iload_n 3, 1) := by decide +kernel
theorem d_Qu_burn_42 : decode b_Qu_burn 42 = .ok (.iaload, 1) := by decide +kernel
theorem d_Qu_burn_43 : decode b_Qu_burn 43 = .ok (.iconst 1, 1) := by decide +kernel
theorem d_Qu_burn_44 : decode b_Qu_burn 44 = .ok (.iastore, 1) := by decide +kernel
theorem d_Qu_burn_45 : decode b_Qu_burn 45 = .ok (.iinc 3 1, 3) := by decide +kernel
theorem d_Qu_burn_48 : decode b_Qu_burn 48 = .ok (.goto (-38), 3) := by decide +kernel
theorem d_Qu_burn_51 : decode b_Qu_burn 51 = .ok (.aload_n 0, 1) := by decide +kernel
theorem d_Qu_burn_52 : decode b_Qu_burn 52 = .ok (.iconst 0, 1) := by decide +kernel
theorem d_Qu_burn_53 : decode b_Qu_burn 53 = .ok (.putfield 33, 3) := by decide +kernel
theorem d_Qu_burn_56 : decode b_Qu_burn 56 = .ok (.aload_n 0, 1) := by decide +kernel
theorem d_Qu_burn_57 : decode b_Qu_burn 57 = .ok (.iconst 0, 1) := by decide +kernel
theorem d_Qu_burn_58 : decode b_Qu_burn 58 = .ok (.invokevirtual 71, 3) := by decide +kernel
theorem d_Qu_burn_61 : decode b_Qu_burn 61 = .ok (.iconst 0, 1) := by decide +kernel
theorem d_Qu_burn_62 : decode b_Qu_burn 62 = .ok (.istore_n 3, 1) := by decide +kernel
theorem d_Qu_burn_63 : decode b_Qu_burn 63 = .ok (.iconst 0, 1) := by decide +kernel
theorem d_Qu_burn_64 : decode b_Qu_burn 64 = .ok (.istore 4, 2) := by decide +kernel
theorem d_Qu_burn_66 : decode b_Qu_burn 66 = .ok (.iload 4, 2) := by decide +kernel
theorem d_Qu_burn_68 : decode b_Qu_burn 68 = .ok (.iload_n 2, 1) := by decide +kernel
theorem d_Qu_burn_69 : decode b_Qu_burn 69 = .ok (.if_icmp .ge 45, 3) := by decide +kernel
theorem d_Qu_burn_72 : decode b_Qu_burn 72 = .ok (.aload_n 0, 1) := by decide +kernel
theorem d_Qu_burn_73 : decode b_Qu_burn 73 = .ok (.getfield 33, 3) := by decide +kernel
theorem d_Qu_burn_76 : decode b_Qu_burn 76 = .ok (.istore 5, 2) := by decide +kernel
theorem d_Qu_burn_78 : decode b_Qu_burn 78 = .ok (.iload_n 3, 1) := by decide +kernel
theorem d_Qu_burn_79 : decode b_Qu_burn 79 = .ok (.istore 6, 2) := by decide +kernel
theorem d_Qu_burn_81 : decode b_Qu_burn 81 = .ok (.iload 6, 2) := by decide +kernel
theorem d_Qu_burn_83 : decode b_Qu_burn 83 = .ok (.iload 5, 2) := by decide +kernel
theorem d_Qu_burn_85 : decode b_Qu_burn 85 = .ok (.if_icmp .ge 20, 3) := by decide +kernel
theorem d_Qu_burn_88 : decode b_Qu_burn 88 = .ok (.aload_n 0, 1) := by decide +kernel
theorem d_Qu_burn_89 : decode b_Qu_burn 89 = .ok (.aload_n 0, 1) := by decide +kernel
theorem d_Qu_burn_90 : decode b_Qu_burn 90 = .ok (.getfield 27, 3) := by decide +kernel
theorem d_Qu_burn_93 : decode b_Qu_burn 93 = .ok (.iload 6, 2) := by decide +kernel
theorem d_Qu_burn_95 : decode b_Qu_burn 95 = .ok (.iaload, 1) := by decide +kernel
theorem d_Qu_burn_96 : decode b_Qu_burn 96 = .ok (.invokevirtual 74, 3) := by decide +kernel
theorem d_Qu_burn_99 : decode b_Qu_burn 99 = .ok (.iinc 6 1, 3) := by decide +kernel
theorem d_Qu_burn_102 : decode b_Qu_burn 102 = .ok (.goto (-21), 3) := by decide +kernel
theorem d_Qu_burn_105 : decode b_Qu_burn 105 = .ok (.iload 5, 2) := by decide +kernel
theorem d_Qu_burn_107 : decode b_Qu_burn 107 = .ok (.istore_n 3, 1) := by decide +kernel
theorem d_Qu_burn_108 : decode b_Qu_burn 108 = .ok (.iinc 4 1, 3) := by decide +kernel
theorem d_Qu_burn_111 : decode b_Qu_burn 111 = .ok (.goto (-45), 3) := by decide +kernel
theorem d_Qu_burn_114 : decode b_Qu_burn 114 = .ok (.aload_n 0, 1) := by decide +kernel
theorem d_Qu_burn_115 : decode b_Qu_burn 115 = .ok (.getfield 33, 3) := by decide +kernel
theorem d_Qu_burn_118 : decode b_Qu_burn 118 = .ok (.ireturn, 1) := by decide +kernel
theorem d_Qu_spread_0 : decode b_Qu_spread 0 = .ok (.iconst 0, 1) := by decide +kernel
theorem d_Qu_spread_1 : decode b_Qu_spread 1 = .ok (.istore_n 2, 1) := by decide +kernel
theorem d_Qu_spread_2 : decode b_Qu_spread 2 = .ok (.iload_n 2, 1) := by decide +kernel
theorem d_Qu_spread_3 : decode b_Qu_spread 3 = .ok (.iconst 5, 1) := by decide +kernel
theorem d_Qu_spread_4 : decode b_Qu_spread 4 = .ok (.if_icmp .ge 39, 3) := by decide +kernel
theorem d_Qu_spread_7 : decode b_Qu_spread 7 = .ok (.aload_n 0, 1) := by decide +kernel
theorem d_Qu_spread_8 : decode b_Qu_spread 8 = .ok (.getfield 18, 3) := by decide +kernel
theorem d_Qu_spread_11 : decode b_Qu_spread 11 = .ok (.iload_n 1, 1) := by decide +kernel
theorem d_Qu_spread_12 : decode b_Qu_spread 12 = .ok (.iconst 5, 1) := by decide +kernel
theorem d_Qu_spread_13 : decode b_Qu_spread 13 = .ok (.imul, 1) := by decide +kernel
theorem d_Qu_spread_14 : decode b_Qu_spread 14 = .ok (.iload_n 2, 1) := by decide +kernel
theorem d_Qu_spread_15 : decode b_Qu_spread 15 = .ok (.iadd, 1) := by decide +kernel
theorem d_Qu_spread_16 : decode b_Qu_spread 16 = .ok (.iaload, 1) := by decide +kernel
theorem d_Qu_spread_17 : decode b_Qu_spread 17 = .ok (.istore_n 3, 1) := by decide +kernel
theorem d_Qu_spread_18 : decode b_Qu_spread 18 = .ok (.iload_n 3, 1) := by decide +kernel
theorem d_Qu_spread_19 : decode b_Qu_spread 19 = .ok (.iconst (-1), 1) := by decide +kernel
theorem d_Qu_spread_20 : decode b_Qu_spread 20 = .ok (.if_icmp .eq 17, 3) := by decide +kernel
theorem d_Qu_spread_23 : decode b_Qu_spread 23 = .ok (.aload_n 0, 1) := by decide +kernel
theorem d_Qu_spread_24 : decode b_Qu_spread 24 = .ok (.getfield 24, 3) := by decide +kernel
theorem d_Qu_spread_27 : decode b_Qu_spread 27 = .ok (.iload_n 3, 1) := by decide +kernel
theorem d_Qu_spread_28 : decode b_Qu_spread 28 = .ok (.iaload, 1) := by decide +kernel
theorem d_Qu_spread_29 : decode b_Qu_spread 29 = .ok (.ifCond .ne 8, 3) := by decide +kernel
theorem d_Qu_spread_32 : decode b_Qu_spread 32 = .ok (.aload_n 0, 1) := by decide +kernel
theorem d_Qu_spread_33 : decode b_Qu_spread 33 = .ok (.iload_n 3, 1) := by decide +kernel
theorem d_Qu_spread_34 : decode b_Qu_spread 34 = .ok (.invokevirtual 71, 3) := by decide +kernel
theorem d_Qu_spread_37 : decode b_Qu_spread 37 = .ok (.iinc 2 1, 3) := by decide +kernel
theorem d_Qu_spread_40 : decode b_Qu_spread 40 = .ok (.goto (-38), 3) := by decide +kernel
theorem d_Qu_spread_43 : decode b_Qu_spread 43 = .ok (.return_, 1) := by decide +kernel
theorem d_Qu_catchFire_0 : decode b_Qu_catchFire 0 = .ok (.aload_n 0, 1) := by decide +kernel
theorem d_Qu_catchFire_1 : decode b_Qu_catchFire 1 = .ok (.getfield 33, 3) := by decide +kernel
theorem d_Qu_catchFire_4 : decode b_Qu_catchFire 4 = .ok (.sipush 166, 3) := by decide +kernel
theorem d_Qu_catchFire_7 : decode b_Qu_catchFire 7 = .ok (.if_icmp .ge 30, 3) := by decide +kernel
theorem d_Qu_catchFire_10 : decode b_Qu_catchFire 10 = .ok (.aload_n 0, 1) := by decide +kernel
theorem d_Qu_catchFire_11 : decode b_Qu_catchFire 11 = .ok (.getfield 27, 3) := by decide +kernel
theorem d_Qu_catchFire_14 : decode b_Qu_catchFire 14 = .ok (.aload_n 0, 1) := by decide +kernel
theorem d_Qu_catchFire_15 : decode b_Qu_catchFire 15 = .ok (.getfield 33, 3) := by decide +kernel
theorem d_Qu_catchFire_18 : decode b_Qu_catchFire 18 = .ok (.iload_n 1, 1) := by decide +kernel
theorem d_Qu_catchFire_19 : decode b_Qu_catchFire 19 = .ok (.iastore, 1) := by decide +kernel
theorem d_Qu_catchFire_20 : decode b_Qu_catchFire 20 = .ok (.aload_n 0, 1) := by decide +kernel
theorem d_Qu_catchFire_21 : decode b_Qu_catchFire 21 = .ok (.dup, 1) := by decide +kernel
theorem d_Qu_catchFire_22 : decode b_Qu_catchFire 22 = .ok (.getfield 33, 3) := by decide +kernel
theorem d_Qu_catchFire_25 : decode b_Qu_catchFire 25 = .ok (.iconst 1, 1) := by decide +kernel
theorem d_Qu_catchFire_26 : decode b_Qu_catchFire 26 = .ok (.iadd, 1) := by decide +kernel
theorem d_Qu_catchFire_27 : decode b_Qu_catchFire 27 = .ok (.putfield 33, 3) := by decide +kernel
theorem d_Qu_catchFire_30 : decode b_Qu_catchFire 30 = .ok (.aload_n 0, 1) := by decide +kernel
theorem d_Qu_catchFire_31 : decode b_Qu_catchFire 31 = .ok (.getfield 24, 3) := by decide +kernel
theorem d_Qu_catchFire_34 : decode b_Qu_catchFire 34 = .ok (.iload_n 1, 1) := by decide +kernel
theorem d_Qu_catchFire_35 : decode b_Qu_catchFire 35 = .ok (.iconst 1, 1) := by decide +kernel
theorem d_Qu_catchFire_36 : decode b_Qu_catchFire 36 = .ok (.iastore, 1) := by decide +kernel
theorem d_Qu_catchFire_37 : decode b_Qu_catchFire 37 = .ok (.return_, 1) := by decide +kernel
theorem d_Qu_edgeBurns_0 : decode b_Qu_edgeBurns 0 = .ok (.iconst 0, 1) := by decide +kernel
theorem d_Qu_edgeBurns_1 : decode b_Qu_edgeBurns 1 = .ok (.istore_n 1, 1) := by decide +kernel
theorem d_Qu_edgeBurns_2 : decode b_Qu_edgeBurns 2 = .ok (.iload_n 1, 1) := by decide +kernel
theorem d_Qu_edgeBurns_3 : decode b_Qu_edgeBurns 3 = .ok (.aload_n 0, 1) := by decide +kernel
theorem d_Qu_edgeBurns_4 : decode b_Qu_edgeBurns 4 = .ok (.getfield 33, 3) := by decide +kernel
theorem d_Qu_edgeBurns_7 : decode b_Qu_edgeBurns 7 = .ok (.if_icmp .ge 26, 3) := by decide +kernel
theorem d_Qu_edgeBurns_10 : decode b_Qu_edgeBurns 10 = .ok (.aload_n 0, 1) := by decide +kernel
theorem d_Qu_edgeBurns_11 : decode b_Qu_edgeBurns 11 = .ok (.getfield 15, 3) := by decide +kernel
theorem d_Qu_edgeBurns_14 : decode b_Qu_edgeBurns 14 = .ok (.aload_n 0, 1) := by decide +kernel
theorem d_Qu_edgeBurns_15 : decode b_Qu_edgeBurns 15 = .ok (.getfield 27, 3) := by decide +kernel
theorem d_Qu_edgeBurns_18 : decode b_Qu_edgeBurns 18 = .ok (.iload_n 1, 1) := by decide +kernel
theorem d_Qu_edgeBurns_19 : decode b_Qu_edgeBurns 19 = .ok (.iaload, 1) := by decide +kernel
theorem d_Qu_edgeBurns_20 : decode b_Qu_edgeBurns 20 = .ok (.iaload, 1) := by decide +kernel
theorem d_Qu_edgeBurns_21 : decode b_Qu_edgeBurns 21 = .ok (.iconst 4, 1) := by decide +kernel
theorem d_Qu_edgeBurns_22 : decode b_Qu_edgeBurns 22 = .ok (.if_icmp .ne 5, 3) := by decide +kernel
theorem d_Qu_edgeBurns_25 : decode b_Qu_edgeBurns 25 = .ok (.iconst 1, 1) := by decide +kernel
theorem d_Qu_edgeBurns_26 : decode b_Qu_edgeBurns 26 = .ok (.ireturn, 1) := by decide +kernel
theorem d_Qu_edgeBurns_27 : decode b_Qu_edgeBurns 27 = .ok (.iinc 1 1, 3) := by decide +kernel
theorem d_Qu_edgeBurns_30 : decode b_Qu_edgeBurns 30 = .ok (.goto (-28), 3) := by decide +kernel
theorem d_Qu_edgeBurns_33 : decode b_Qu_edgeBurns 33 = .ok (.iconst 0, 1) := by decide +kernel
theorem d_Qu_edgeBurns_34 : decode b_Qu_edgeBurns 34 = .ok (.ireturn, 1) := by decide +kernel
theorem d_Rd_init_0 : decode b_Rd_init 0 = .ok (.aload_n 0, 1) := by decide +kernel
theorem d_Rd_init_1 : decode b_Rd_init 1 = .ok (.invokespecial 3, 3) := by decide +kernel
theorem d_Rd_init_4 : decode b_Rd_init 4 = .ok (.aload_n 0, 1) := by decide +kernel
theorem d_Rd_init_5 : decode b_Rd_init 5 = .ok (.iconst 5, 1) := by decide +kernel
theorem d_Rd_init_6 : decode b_Rd_init 6 = .ok (.newarray .int, 2) := by decide +kernel
theorem d_Rd_init_8 : decode b_Rd_init 8 = .ok (.putfield 9, 3) := by decide +kernel
theorem d_Rd_init_11 : decode b_Rd_init 11 = .ok (.aload_n 0, 1) := by decide +kernel
theorem d_Rd_init_12 : decode b_Rd_init 12 = .ok (.iconst 5, 1) := by decide +kernel
theorem d_Rd_init_13 : decode b_Rd_init 13 = .ok (.newarray .int, 2) := by decide +kernel
theorem d_Rd_init_15 : decode b_Rd_init 15 = .ok (.putfield 15, 3) := by decide +kernel
theorem d_Rd_init_18 : decode b_Rd_init 18 = .ok (.aload_n 0, 1) := by decide +kernel
theorem d_Rd_init_19 : decode b_Rd_init 19 = .ok (.iconst 5, 1) := by decide +kernel
theorem d_Rd_init_20 : decode b_Rd_init 20 = .ok (.newarray .int, 2) := by decide +kernel
theorem d_Rd_init_22 : decode b_Rd_init 22 = .ok (.putfield 18, 3) := by decide +kernel
theorem d_Rd_init_25 : decode b_Rd_init 25 = .ok (.aload_n 0, 1) := by decide +kernel
theorem d_Rd_init_26 : decode b_Rd_init 26 = .ok (.iconst 0, 1) := by decide +kernel
theorem d_Rd_init_27 : decode b_Rd_init 27 = .ok (.putfield 21, 3) := by decide +kernel
theorem d_Rd_init_30 : decode b_Rd_init 30 = .ok (.aload_n 0, 1) := by decide +kernel
theorem d_Rd_init_31 : decode b_Rd_init 31 = .ok (.iconst (-1), 1) := by decide +kernel
theorem d_Rd_init_32 : decode b_Rd_init 32 = .ok (.putfield 25, 3) := by decide +kernel
theorem d_Rd_init_35 : decode b_Rd_init 35 = .ok (.return_, 1) := by decide +kernel
theorem d_Rd_read_0 : decode b_Rd_read 0 = .ok (.aload_n 0, 1) := by decide +kernel
theorem d_Rd_read_1 : decode b_Rd_read 1 = .ok (.iconst 0, 1) := by decide +kernel
theorem d_Rd_read_2 : decode b_Rd_read 2 = .ok (.putfield 21, 3) := by decide +kernel
theorem d_Rd_read_5 : decode b_Rd_read 5 = .ok (.aload_n 0, 1) := by decide +kernel
theorem d_Rd_read_6 : decode b_Rd_read 6 = .ok (.iconst (-1), 1) := by decide +kernel
theorem d_Rd_read_7 : decode b_Rd_read 7 = .ok (.putfield 25, 3) := by decide +kernel
theorem d_Rd_read_10 : decode b_Rd_read 10 = .ok (.iconst 0, 1) := by decide +kernel
theorem d_Rd_read_11 : decode b_Rd_read 11 = .ok (.istore_n 3, 1) := by decide +kernel
theorem d_Rd_read_12 : decode b_Rd_read 12 = .ok (.iload_n 3, 1) := by decide +kernel
theorem d_Rd_read_13 : decode b_Rd_read 13 = .ok (.iload_n 2, 1) := by decide +kernel
theorem d_Rd_read_14 : decode b_Rd_read 14 = .ok (.if_icmp .ge 27, 3) := by decide +kernel
theorem d_Rd_read_17 : decode b_Rd_read 17 = .ok (.iload_n 3, 1) := by decide +kernel
theorem d_Rd_read_18 : decode b_Rd_read 18 = .ok (.aload_n 1, 1) := by decide +kernel
theorem d_Rd_read_19 : decode b_Rd_read 19 = .ok (.arraylength, 1) := by decide +kernel
theorem d_Rd_read_20 : decode b_Rd_read 20 = .ok (.if_icmp .ge 21, 3) := by decide +kernel
theorem d_Rd_read_23 : decode b_Rd_read 23 = .ok (.aload_n 0, 1) := by decide +kernel
theorem d_Rd_read_24 : decode b_Rd_read 24 = .ok (.aload_n 1, 1) := by decide +kernel
theorem d_Rd_read_25 : decode b_Rd_read 25 = .ok (.iload_n 3, 1) := by decide +kernel
theorem d_Rd_read_26 : decode b_Rd_read 26 = .ok (.baload, 1) := by decide +kernel
theorem d_Rd_read_27 : decode b_Rd_read 27 = .ok (.invokevirtual 28, 3) := by decide +kernel
theorem d_Rd_read_30 : decode b_Rd_read 30 = .ok (.ifCond .ne 5, 3) := by decide +kernel
theorem d_Rd_read_33 : decode b_Rd_read 33 = .ok (.iload_n 3, 1) := by decide +kernel
theorem d_Rd_read_34 : decode b_Rd_read 34 = .ok (.ireturn, 1) := by decide +kernel
theorem d_Rd_read_35 : decode b_Rd_read 35 = .ok (.iinc 3 1, 3) := by decide +kernel
theorem d_Rd_read_38 : decode b_Rd_read 38 = .ok (.goto (-26), 3) := by decide +kernel
theorem d_Rd_read_41 : decode b_Rd_read 41 = .ok (.aload_n 0, 1) := by decide +kernel
theorem d_Rd_read_42 : decode b_Rd_read 42 = .ok (.getfield 25, 3) := by decide +kernel
theorem d_Rd_read_45 : decode b_Rd_read 45 = .ok (.ifCond .ne 7, 3) := by decide +kernel
theorem d_Rd_read_48 : decode b_Rd_read 48 = .ok (.iload_n 2, 1) := by decide +kernel
theorem d_Rd_read_49 : decode b_Rd_read 49 = .ok (.goto 5, 3) := by decide +kernel
theorem d_Rd_read_52 : decode b_Rd_read 52 = .ok (.bipush (-9), 2) := by decide +kernel
theorem d_Rd_read_54 : decode b_Rd_read 54 = .ok (.ireturn, 1) := by decide +kernel
theorem d_Rd_take_0 : decode b_Rd_take 0 = .ok (.iload_n 1, 1) := by decide +kernel
theorem d_Rd_take_1 : decode b_Rd_take 1 = .ok (.bipush 32, 2) := by decide +kernel
theorem d_Rd_take_3 : decode b_Rd_take 3 = .ok (.if_icmp .ne 8, 3) := by decide +kernel
theorem d_Rd_take_6 : decode b_Rd_take 6 = .ok (.aload_n 0, 1) := by decide +kernel
theorem d_Rd_take_7 : decode b_Rd_take 7 = .ok (.invokevirtual 32, 3) := by decide +kernel
theorem d_Rd_take_10 : decode b_Rd_take 10 = .ok (.ireturn, 1) := by decide +kernel
theorem d_Rd_take_11 : decode b_Rd_take 11 = .ok (.iload_n 1, 1) := by decide +kernel
theorem d_Rd_take_12 : decode b_Rd_take 12 = .ok (.bipush 48, 2) := by decide +kernel
theorem d_Rd_take_14 : decode b_Rd_take 14 = .ok (.isub, 1) := by decide +kernel
theorem d_Rd_take_15 : decode b_Rd_take 15 = .ok (.invokestatic 36, 3) := by decide +kernel
theorem d_Rd_take_18 : decode b_Rd_take 18 = .ok (.ifCond .eq 14, 3) := by decide +kernel
theorem d_Rd_take_21 : decode b_Rd_take 21 = .ok (.aload_n 0, 1) := by decide +kernel
theorem d_Rd_take_22 : decode b_Rd_take 22 = .ok (.iload_n 1, 1) := by decide +kernel
theorem d_Rd_take_23 : decode b_Rd_take 23 = .ok (.bipush 48, 2) := by decide +kernel
theorem d_Rd_take_25 : decode b_Rd_take 25 = .ok (.isub, 1) := by decide +kernel
theorem d_Rd_take_26 : decode b_Rd_take 26 = .ok (.invokevirtual 39, 3) := by decide +kernel
theorem d_Rd_take_29 : decode b_Rd_take 29 = .ok (.goto 8, 3) := by decide +kernel
theorem d_Rd_take_32 : decode b_Rd_take 32 = .ok (.aload_n 0, 1) := by decide +kernel
theorem d_Rd_take_33 : decode b_Rd_take 33 = .ok (.iload_n 1, 1) := by decide +kernel
theorem d_Rd_take_34 : decode b_Rd_take 34 = .ok (.invokevirtual 42, 3) := by decide +kernel
theorem d_Rd_take_37 : decode b_Rd_take 37 = .ok (.ireturn, 1) := by decide +kernel
theorem d_Rd_takeBlank_0 : decode b_Rd_takeBlank 0 = .ok (.aload_n 0, 1) := by decide +kernel
theorem d_Rd_takeBlank_1 : decode b_Rd_takeBlank 1 = .ok (.getfield 25, 3) := by decide +kernel
theorem d_Rd_takeBlank_4 : decode b_Rd_takeBlank 4 = .ok (.ifCond .ne 5, 3) := by decide +kernel
theorem d_Rd_takeBlank_7 : decode b_Rd_takeBlank 7 = .ok (.iconst 0, 1) := by decide +kernel
theorem d_Rd_takeBlank_8 : decode b_Rd_takeBlank 8 = .ok (.ireturn, 1) := by decide +kernel
theorem d_Rd_takeBlank_9 : decode b_Rd_takeBlank 9 = .ok (.aload_n 0, 1) := by decide +kernel
theorem d_Rd_takeBlank_10 : decode b_Rd_takeBlank 10 = .ok (.iconst (-1), 1) := by decide +kernel
theorem d_Rd_takeBlank_11 : decode b_Rd_takeBlank 11 = .ok (.putfield 25, 3) := by decide +kernel
theorem d_Rd_takeBlank_14 : decode b_Rd_takeBlank 14 = .ok (.iconst 1, 1) := by decide +kernel
theorem d_Rd_takeBlank_15 : decode b_Rd_takeBlank 15 = .ok (.ireturn, 1) := by decide +kernel
theorem d_Rd_takeFigure_0 : decode b_Rd_takeFigure 0 = .ok (.aload_n 0, 1) := by decide +kernel
theorem d_Rd_takeFigure_1 : decode b_Rd_takeFigure 1 = .ok (.getfield 25, 3) := by decide +kernel
theorem d_Rd_takeFigure_4 : decode b_Rd_takeFigure 4 = .ok (.iconst (-1), 1) := by decide +kernel
theorem d_Rd_takeFigure_5 : decode b_Rd_takeFigure 5 = .ok (.if_icmp .eq 19, 3) := by decide +kernel
theorem d_Rd_takeFigure_8 : decode b_Rd_takeFigure 8 = .ok (.aload_n 0, 1) := by decide +kernel
theorem d_Rd_takeFigure_9 : decode b_Rd_takeFigure 9 = .ok (.getfield 25, 3) := by decide +kernel
theorem d_Rd_takeFigure_12 : decode b_Rd_takeFigure 12 = .ok (.iconst 4, 1) := by decide +kernel
theorem d_Rd_takeFigure_13 : decode b_Rd_takeFigure 13 = .ok (.if_icmp .gt 11, 3) := by decide +kernel
theorem d_Rd_takeFigure_16 : decode b_Rd_takeFigure 16 = .ok (.aload_n 0, 1) := by decide +kernel
theorem d_Rd_takeFigure_17 : decode b_Rd_takeFigure 17 = .ok (.getfield 21, 3) := by decide +kernel
theorem d_Rd_takeFigure_20 : decode b_Rd_takeFigure 20 = .ok (.iconst 1, 1) := by decide +kernel
theorem d_Rd_takeFigure_21 : decode b_Rd_takeFigure 21 = .ok (.if_icmp .ge 5, 3) := by decide +kernel
theorem d_Rd_takeFigure_24 : decode b_Rd_takeFigure 24 = .ok (.iconst 0, 1) := by decide +kernel
theorem d_Rd_takeFigure_25 : decode b_Rd_takeFigure 25 = .ok (.ireturn, 1) := by decide +kernel
theorem d_Rd_takeFigure_26 : decode b_Rd_takeFigure 26 = .ok (.aload_n 0, 1) := by decide +kernel
theorem d_Rd_takeFigure_27 : decode b_Rd_takeFigure 27 = .ok (.getfield 25, 3) := by decide +kernel
theorem d_Rd_takeFigure_30 : decode b_Rd_takeFigure 30 = .ok (.ifCond .ne 18, 3) := by decide +kernel
theorem d_Rd_takeFigure_33 : decode b_Rd_takeFigure 33 = .ok (.aload_n 0, 1) := by decide +kernel
theorem d_Rd_takeFigure_34 : decode b_Rd_takeFigure 34 = .ok (.getfield 15, 3) := by decide +kernel
theorem d_Rd_takeFigure_37 : decode b_Rd_takeFigure 37 = .ok (.aload_n 0, 1) := by decide +kernel
theorem d_Rd_takeFigure_38 : decode b_Rd_takeFigure 38 = .ok (.getfield 21, 3) := by decide +kernel
theorem d_Rd_takeFigure_41 : decode b_Rd_takeFigure 41 = .ok (.iconst 1, 1) := by decide +kernel
theorem d_Rd_takeFigure_42 : decode b_Rd_takeFigure 42 = .ok (.isub, 1) := by decide +kernel
theorem d_Rd_takeFigure_43 : decode b_Rd_takeFigure 43 = .ok (.iload_n 1, 1) := by decide +kernel
theorem d_Rd_takeFigure_44 : decode b_Rd_takeFigure 44 = .ok (.iastore, 1) := by decide +kernel
theorem d_Rd_takeFigure_45 : decode b_Rd_takeFigure 45 = .ok (.goto 32, 3) := by decide +kernel
theorem d_Rd_takeFigure_48 : decode b_Rd_takeFigure 48 = .ok (.aload_n 0, 1) := by decide +kernel
theorem d_Rd_takeFigure_49 : decode b_Rd_takeFigure 49 = .ok (.getfield 18, 3) := by decide +kernel
theorem d_Rd_takeFigure_52 : decode b_Rd_takeFigure 52 = .ok (.aload_n 0, 1) := by decide +kernel
theorem d_Rd_takeFigure_53 : decode b_Rd_takeFigure 53 = .ok (.getfield 21, 3) := by decide +kernel
theorem d_Rd_takeFigure_56 : decode b_Rd_takeFigure 56 = .ok (.iconst 1, 1) := by decide +kernel
theorem d_Rd_takeFigure_57 : decode b_Rd_takeFigure 57 = .ok (.isub, 1) := by decide +kernel
theorem d_Rd_takeFigure_58 : decode b_Rd_takeFigure 58 = .ok (.aload_n 0, 1) := by decide +kernel
theorem d_Rd_takeFigure_59 : decode b_Rd_takeFigure 59 = .ok (.getfield 18, 3) := by decide +kernel
theorem d_Rd_takeFigure_62 : decode b_Rd_takeFigure 62 = .ok (.aload_n 0, 1) := by decide +kernel
theorem d_Rd_takeFigure_63 : decode b_Rd_takeFigure 63 = .ok (.getfield 21, 3) := by decide +kernel
theorem d_Rd_takeFigure_66 : decode b_Rd_takeFigure 66 = .ok (.iconst 1, 1) := by decide +kernel
theorem d_Rd_takeFigure_67 : decode b_Rd_takeFigure 67 = .ok (.isub, 1) := by decide +kernel
theorem d_Rd_takeFigure_68 : decode b_Rd_takeFigure 68 = .ok (.iaload, 1) := by decide +kernel
theorem d_Rd_takeFigure_69 : decode b_Rd_takeFigure 69 = .ok (.bipush 10, 2) := by decide +kernel
theorem d_Rd_takeFigure_71 : decode b_Rd_takeFigure 71 = .ok (.imul, 1) := by decide +kernel
theorem d_Rd_takeFigure_72 : decode b_Rd_takeFigure 72 = .ok (.iload_n 1, 1) := by decide +kernel
theorem d_Rd_takeFigure_73 : decode b_Rd_takeFigure 73 = .ok (.iadd, 1) := by decide +kernel
theorem d_Rd_takeFigure_74 : decode b_Rd_takeFigure 74 = .ok (.iconst 1, 1) := by decide +kernel
theorem d_Rd_takeFigure_75 : decode b_Rd_takeFigure 75 = .ok (.iadd, 1) := by decide +kernel
theorem d_Rd_takeFigure_76 : decode b_Rd_takeFigure 76 = .ok (.iastore, 1) := by decide +kernel
theorem d_Rd_takeFigure_77 : decode b_Rd_takeFigure 77 = .ok (.aload_n 0, 1) := by decide +kernel
theorem d_Rd_takeFigure_78 : decode b_Rd_takeFigure 78 = .ok (.dup, 1) := by decide +kernel
theorem d_Rd_takeFigure_79 : decode b_Rd_takeFigure 79 = .ok (.getfield 25, 3) := by decide +kernel
theorem d_Rd_takeFigure_82 : decode b_Rd_takeFigure 82 = .ok (.iconst 1, 1) := by decide +kernel
theorem d_Rd_takeFigure_83 : decode b_Rd_takeFigure 83 = .ok (.iadd, 1) := by decide +kernel
theorem d_Rd_takeFigure_84 : decode b_Rd_takeFigure 84 = .ok (.putfield 25, 3) := by decide +kernel
theorem d_Rd_takeFigure_87 : decode b_Rd_takeFigure 87 = .ok (.iconst 1, 1) := by decide +kernel
theorem d_Rd_takeFigure_88 : decode b_Rd_takeFigure 88 = .ok (.ireturn, 1) := by decide +kernel
theorem d_Rd_takeLetter_0 : decode b_Rd_takeLetter 0 = .ok (.iload_n 1, 1) := by decide +kernel
theorem d_Rd_takeLetter_1 : decode b_Rd_takeLetter 1 = .ok (.invokestatic 45, 3) := by decide +kernel
theorem d_Rd_takeLetter_4 : decode b_Rd_takeLetter 4 = .ok (.istore_n 2, 1) := by decide +kernel
theorem d_Rd_takeLetter_5 : decode b_Rd_takeLetter 5 = .ok (.iload_n 2, 1) := by decide +kernel
theorem d_Rd_takeLetter_6 : decode b_Rd_takeLetter 6 = .ok (.bipush (-9), 2) := by decide +kernel
theorem d_Rd_takeLetter_8 : decode b_Rd_takeLetter 8 = .ok (.if_icmp .eq 18, 3) := by decide +kernel
theorem d_Rd_takeLetter_11 : decode b_Rd_takeLetter 11 = .ok (.aload_n 0, 1) := by decide +kernel
theorem d_Rd_takeLetter_12 : decode b_Rd_takeLetter 12 = .ok (.getfield 25, 3) := by decide +kernel
theorem d_Rd_takeLetter_15 : decode b_Rd_takeLetter 15 = .ok (.ifCond .eq 11, 3) := by decide +kernel
theorem d_Rd_takeLetter_18 : decode b_Rd_takeLetter 18 = .ok (.aload_n 0, 1) := by decide +kernel
theorem d_Rd_takeLetter_19 : decode b_Rd_takeLetter 19 = .ok (.getfield 21, 3) := by decide +kernel
theorem d_Rd_takeLetter_22 : decode b_Rd_takeLetter 22 = .ok (.iconst 5, 1) := by decide +kernel
theorem d_Rd_takeLetter_23 : decode b_Rd_takeLetter 23 = .ok (.if_icmp .lt 5, 3) := by decide +kernel
theorem d_Rd_takeLetter_26 : decode b_Rd_takeLetter 26 = .ok (.iconst 0, 1) := by decide +kernel
theorem d_Rd_takeLetter_27 : decode b_Rd_takeLetter 27 = .ok (.ireturn, 1) := by decide +kernel
theorem d_Rd_takeLetter_28 : decode b_Rd_takeLetter 28 = .ok (.aload_n 0, 1) := by decide +kernel
theorem d_Rd_takeLetter_29 : decode b_Rd_takeLetter 29 = .ok (.getfield 9, 3) := by decide +kernel
theorem d_Rd_takeLetter_32 : decode b_Rd_takeLetter 32 = .ok (.aload_n 0, 1) := by decide +kernel
theorem d_Rd_takeLetter_33 : decode b_Rd_takeLetter 33 = .ok (.getfield 21, 3) := by decide +kernel
theorem d_Rd_takeLetter_36 : decode b_Rd_takeLetter 36 = .ok (.iload_n 2, 1) := by decide +kernel
theorem d_Rd_takeLetter_37 : decode b_Rd_takeLetter 37 = .ok (.iastore, 1) := by decide +kernel
theorem d_Rd_takeLetter_38 : decode b_Rd_takeLetter 38 = .ok (.aload_n 0, 1) := by decide +kernel
theorem d_Rd_takeLetter_39 : decode b_Rd_takeLetter 39 = .ok (.getfield 15, 3) := by decide +kernel
theorem d_Rd_takeLetter_42 : decode b_Rd_takeLetter 42 = .ok (.aload_n 0, 1) := by decide +kernel
theorem d_Rd_takeLetter_43 : decode b_Rd_takeLetter 43 = .ok (.getfield 21, 3) := by decide +kernel
theorem d_Rd_takeLetter_46 : decode b_Rd_takeLetter 46 = .ok (.iconst 0, 1) := by decide +kernel
theorem d_Rd_takeLetter_47 : decode b_Rd_takeLetter 47 = .ok (.iastore, 1) := by decide +kernel
theorem d_Rd_takeLetter_48 : decode b_Rd_takeLetter 48 = .ok (.aload_n 0, 1) := by decide +kernel
theorem d_Rd_takeLetter_49 : decode b_Rd_takeLetter 49 = .ok (.getfield 18, 3) := by decide +kernel
theorem d_Rd_takeLetter_52 : decode b_Rd_takeLetter 52 = .ok (.aload_n 0, 1) := by decide +kernel
theorem d_Rd_takeLetter_53 : decode b_Rd_takeLetter 53 = .ok (.getfield 21, 3) := by decide +kernel
theorem d_Rd_takeLetter_56 : decode b_Rd_takeLetter 56 = .ok (.iconst 0, 1) := by decide +kernel
theorem d_Rd_takeLetter_57 : decode b_Rd_takeLetter 57 = .ok (.iastore, 1) := by decide +kernel
theorem d_Rd_takeLetter_58 : decode b_Rd_takeLetter 58 = .ok (.aload_n 0, 1) := by decide +kernel
theorem d_Rd_takeLetter_59 : decode b_Rd_takeLetter 59 = .ok (.dup, 1) := by decide +kernel
theorem d_Rd_takeLetter_60 : decode b_Rd_takeLetter 60 = .ok (.getfield 21, 3) := by decide +kernel
theorem d_Rd_takeLetter_63 : decode b_Rd_takeLetter 63 = .ok (.iconst 1, 1) := by decide +kernel
theorem d_Rd_takeLetter_64 : decode b_Rd_takeLetter 64 = .ok (.iadd, 1) := by decide +kernel
theorem d_Rd_takeLetter_65 : decode b_Rd_takeLetter 65 = .ok (.putfield 21, 3) := by decide +kernel
theorem d_Rd_takeLetter_68 : decode b_Rd_takeLetter 68 = .ok (.aload_n 0, 1) := by decide +kernel
theorem d_Rd_takeLetter_69 : decode b_Rd_takeLetter 69 = .ok (.iconst 0, 1) := by decide +kernel
theorem d_Rd_takeLetter_70 : decode b_Rd_takeLetter 70 = .ok (.putfield 25, 3) := by decide +kernel
theorem d_Rd_takeLetter_73 : decode b_Rd_takeLetter 73 = .ok (.iconst 1, 1) := by decide +kernel
theorem d_Rd_takeLetter_74 : decode b_Rd_takeLetter 74 = .ok (.ireturn, 1) := by decide +kernel
theorem d_Rd_kindOf_0 : decode b_Rd_kindOf 0 = .ok (.iload_n 0, 1) := by decide +kernel
theorem d_Rd_kindOf_1 : decode b_Rd_kindOf 1 = .ok (.lookupswitch 71 #[(99, 63), (104, 65), (111, 69), (114, 67), (115, 61), (119, 59)], 59) := by decide +kernel
theorem d_Rd_kindOf_60 : decode b_Rd_kindOf 60 = .ok (.iconst 0, 1) := by decide +kernel
theorem d_Rd_kindOf_61 : decode b_Rd_kindOf 61 = .ok (.ireturn, 1) := by decide +kernel
theorem d_Rd_kindOf_62 : decode b_Rd_kindOf 62 = .ok (.iconst 1, 1) := by decide +kernel
theorem d_Rd_kindOf_63 : decode b_Rd_kindOf 63 = .ok (.ireturn, 1) := by decide +kernel
theorem d_Rd_kindOf_64 : decode b_Rd_kindOf 64 = .ok (.iconst 2, 1) := by decide +kernel
theorem d_Rd_kindOf_65 : decode b_Rd_kindOf 65 = .ok (.ireturn, 1) := by decide +kernel
theorem d_Rd_kindOf_66 : decode b_Rd_kindOf 66 = .ok (.iconst 3, 1) := by decide +kernel
theorem d_Rd_kindOf_67 : decode b_Rd_kindOf 67 = .ok (.ireturn, 1) := by decide +kernel
theorem d_Rd_kindOf_68 : decode b_Rd_kindOf 68 = .ok (.iconst 4, 1) := by decide +kernel
theorem d_Rd_kindOf_69 : decode b_Rd_kindOf 69 = .ok (.ireturn, 1) := by decide +kernel
theorem d_Rd_kindOf_70 : decode b_Rd_kindOf 70 = .ok (.iconst 5, 1) := by decide +kernel
theorem d_Rd_kindOf_71 : decode b_Rd_kindOf 71 = .ok (.ireturn, 1) := by decide +kernel
theorem d_Rd_kindOf_72 : decode b_Rd_kindOf 72 = .ok (.bipush (-9), 2) := by decide +kernel
theorem d_Rd_kindOf_74 : decode b_Rd_kindOf 74 = .ok (.ireturn, 1) := by decide +kernel
theorem d_To_init_0 : decode b_To_init 0 = .ok (.aload_n 0, 1) := by decide +kernel
theorem d_To_init_1 : decode b_To_init 1 = .ok (.invokespecial 3, 3) := by decide +kernel
theorem d_To_init_4 : decode b_To_init 4 = .ok (.aload_n 0, 1) := by decide +kernel
theorem d_To_init_5 : decode b_To_init 5 = .ok (.bipush 49, 2) := by decide +kernel
theorem d_To_init_7 : decode b_To_init 7 = .ok (.newarray .int, 2) := by decide +kernel
theorem d_To_init_9 : decode b_To_init 9 = .ok (.putfield 11, 3) := by decide +kernel
theorem d_To_init_12 : decode b_To_init 12 = .ok (.aload_n 0, 1) := by decide +kernel
theorem d_To_init_13 : decode b_To_init 13 = .ok (.bipush 6, 2) := by decide +kernel
theorem d_To_init_15 : decode b_To_init 15 = .ok (.newarray .int, 2) := by decide +kernel
theorem d_To_init_17 : decode b_To_init 17 = .ok (.putfield 15, 3) := by decide +kernel
theorem d_To_init_20 : decode b_To_init 20 = .ok (.aload_n 0, 1) := by decide +kernel
theorem d_To_init_21 : decode b_To_init 21 = .ok (.bipush 6, 2) := by decide +kernel
theorem d_To_init_23 : decode b_To_init 23 = .ok (.newarray .int, 2) := by decide +kernel
theorem d_To_init_25 : decode b_To_init 25 = .ok (.putfield 18, 3) := by decide +kernel
theorem d_To_init_28 : decode b_To_init 28 = .ok (.aload_n 0, 1) := by decide +kernel
theorem d_To_init_29 : decode b_To_init 29 = .ok (.iconst 0, 1) := by decide +kernel
theorem d_To_init_30 : decode b_To_init 30 = .ok (.putfield 21, 3) := by decide +kernel
theorem d_To_init_33 : decode b_To_init 33 = .ok (.aload_n 0, 1) := by decide +kernel
theorem d_To_init_34 : decode b_To_init 34 = .ok (.iconst 0, 1) := by decide +kernel
theorem d_To_init_35 : decode b_To_init 35 = .ok (.putfield 25, 3) := by decide +kernel
theorem d_To_init_38 : decode b_To_init 38 = .ok (.return_, 1) := by decide +kernel
theorem d_To_measure_0 : decode b_To_measure 0 = .ok (.aload_n 0, 1) := by decide +kernel
theorem d_To_measure_1 : decode b_To_measure 1 = .ok (.iconst 0, 1) := by decide +kernel
theorem d_To_measure_2 : decode b_To_measure 2 = .ok (.iload_n 2, 1) := by decide +kernel
theorem d_To_measure_3 : decode b_To_measure 3 = .ok (.aload_n 1, 1) := by decide +kernel
theorem d_To_measure_4 : decode b_To_measure 4 = .ok (.arraylength, 1) := by decide +kernel
theorem d_To_measure_5 : decode b_To_measure 5 = .ok (.bipush 6, 2) := by decide +kernel
theorem d_To_measure_7 : decode b_To_measure 7 = .ok (.invokestatic 28, 3) := by decide +kernel
theorem d_To_measure_10 : decode b_To_measure 10 = .ok (.invokestatic 28, 3) := by decide +kernel
theorem d_To_measure_13 : decode b_To_measure 13 = .ok (.invokestatic 34, 3) := by decide +kernel
theorem d_To_measure_16 : decode b_To_measure 16 = .ok (.putfield 21, 3) := by decide +kernel
theorem d_To_measure_19 : decode b_To_measure 19 = .ok (.iconst 0, 1) := by decide +kernel
theorem d_To_measure_20 : decode b_To_measure 20 = .ok (.istore 4, 2) := by decide +kernel
theorem d_To_measure_22 : decode b_To_measure 22 = .ok (.iload 4, 2) := by decide +kernel
theorem d_To_measure_24 : decode b_To_measure 24 = .ok (.aload_n 0, 1) := by decide +kernel
theorem d_To_measure_25 : decode b_To_measure 25 = .ok (.getfield 21, 3) := by decide +kernel
theorem d_To_measure_28 : decode b_To_measure 28 = .ok (.if_icmp .gt 78, 3) := by decide +kernel
theorem d_To_measure_31 : decode b_To_measure 31 = .ok (.iconst 0, 1) := by decide +kernel
theorem d_To_measure_32 : decode b_To_measure 32 = .ok (.istore 5, 2) := by decide +kernel
theorem d_To_measure_34 : decode b_To_measure 34 = .ok (.iload 5, 2) := by decide +kernel
theorem d_To_measure_36 : decode b_To_measure 36 = .ok (.aload_n 0, 1) := by decide +kernel
theorem d_To_measure_37 : decode b_To_measure 37 = .ok (.getfield 21, 3) := by decide +kernel
theorem d_To_measure_40 : decode b_To_measure 40 = .ok (.if_icmp .gt 60, 3) := by decide +kernel
theorem d_To_measure_43 : decode b_To_measure 43 = .ok (.aload_n 3, 1) := by decide +kernel
theorem d_To_measure_44 : decode b_To_measure 44 = .ok (.iload 4, 2) := by decide +kernel
theorem d_To_measure_46 : decode b_To_measure 46 = .ok (.ifCond .ne 7, 3) := by decide +kernel
theorem d_To_measure_49 : decode b_To_measure 49 = .ok (.iconst 0, 1) := by decide +kernel
theorem d_To_measure_50 : decode b_To_measure 50 = .ok (.goto 9, 3) := by decide +kernel
theorem d_To_measure_53 : decode b_To_measure 53 = .ok (.aload_n 1, 1) := by decide +kernel
theorem d_To_measure_54 : decode b_To_measure 54 = .ok (.iload 4, 2) := by decide +kernel
theorem d_To_measure_56 : decode b_To_measure 56 = .ok (.iconst 1, 1) := by decide +kernel
theorem d_To_measure_57 : decode b_To_measure 57 = .ok (.isub, 1) := by decide +kernel
theorem d_To_measure_58 : decode b_To_measure 58 = .ok (.iaload, 1) := by decide +kernel
theorem d_To_measure_59 : decode b_To_measure 59 = .ok (.iload 5, 2) := by decide +kernel
theorem d_To_measure_61 : decode b_To_measure 61 = .ok (.ifCond .ne 7, 3) := by decide +kernel
theorem d_To_measure_64 : decode b_To_measure 64 = .ok (.iconst 0, 1) := by decide +kernel
theorem d_To_measure_65 : decode b_To_measure 65 = .ok (.goto 9, 3) := by decide +kernel
theorem d_To_measure_68 : decode b_To_measure 68 = .ok (.aload_n 1, 1) := by decide +kernel
theorem d_To_measure_69 : decode b_To_measure 69 = .ok (.iload 5, 2) := by decide +kernel
theorem d_To_measure_71 : decode b_To_measure 71 = .ok (.iconst 1, 1) := by decide +kernel
theorem d_To_measure_72 : decode b_To_measure 72 = .ok (.isub, 1) := by decide +kernel
theorem d_To_measure_73 : decode b_To_measure 73 = .ok (.iaload, 1) := by decide +kernel
theorem d_To_measure_74 : decode b_To_measure 74 = .ok (.invokevirtual 37, 3) := by decide +kernel
theorem d_To_measure_77 : decode b_To_measure 77 = .ok (.aload_n 0, 1) := by decide +kernel
theorem d_To_measure_78 : decode b_To_measure 78 = .ok (.getfield 11, 3) := by decide +kernel
theorem d_To_measure_81 : decode b_To_measure 81 = .ok (.iload 4, 2) := by decide +kernel
theorem d_To_measure_83 : decode b_To_measure 83 = .ok (.bipush 7, 2) := by decide +kernel
theorem d_To_measure_85 : decode b_To_measure 85 = .ok (.imul, 1) := by decide +kernel
theorem d_To_measure_86 : decode b_To_measure 86 = .ok (.iload 5, 2) := by decide +kernel
theorem d_To_measure_88 : decode b_To_measure 88 = .ok (.iadd, 1) := by decide +kernel
theorem d_To_measure_89 : decode b_To_measure 89 = .ok (.aload_n 3, 1) := by decide +kernel
theorem d_To_measure_90 : decode b_To_measure 90 = .ok (.getfield 43, 3) := by decide +kernel
theorem d_To_measure_93 : decode b_To_measure 93 = .ok (.iastore, 1) := by decide +kernel
theorem d_To_measure_94 : decode b_To_measure 94 = .ok (.iinc 5 1, 3) := by decide +kernel
theorem d_To_measure_97 : decode b_To_measure 97 = .ok (.goto (-63), 3) := by decide +kernel
theorem d_To_measure_100 : decode b_To_measure 100 = .ok (.iinc 4 1, 3) := by decide +kernel
theorem d_To_measure_103 : decode b_To_measure 103 = .ok (.goto (-81), 3) := by decide +kernel
theorem d_To_measure_106 : decode b_To_measure 106 = .ok (.return_, 1) := by decide +kernel
theorem d_To_search_0 : decode b_To_search 0 = .ok (.iconst 0, 1) := by decide +kernel
theorem d_To_search_1 : decode b_To_search 1 = .ok (.istore_n 1, 1) := by decide +kernel
theorem d_To_search_2 : decode b_To_search 2 = .ok (.iload_n 1, 1) := by decide +kernel
theorem d_To_search_3 : decode b_To_search 3 = .ok (.aload_n 0, 1) := by decide +kernel
theorem d_To_search_4 : decode b_To_search 4 = .ok (.getfield 21, 3) := by decide +kernel
theorem d_To_search_7 : decode b_To_search 7 = .ok (.if_icmp .ge 16, 3) := by decide +kernel
theorem d_To_search_10 : decode b_To_search 10 = .ok (.aload_n 0, 1) := by decide +kernel
theorem d_To_search_11 : decode b_To_search 11 = .ok (.getfield 15, 3) := by decide +kernel
theorem d_To_search_14 : decode b_To_search 14 = .ok (.iload_n 1, 1) := by decide +kernel
theorem d_To_search_15 : decode b_To_search 15 = .ok (.iload_n 1, 1) := by decide +kernel
theorem d_To_search_16 : decode b_To_search 16 = .ok (.iastore, 1) := by decide +kernel
theorem d_To_search_17 : decode b_To_search 17 = .ok (.iinc 1 1, 3) := by decide +kernel
theorem d_To_search_20 : decode b_To_search 20 = .ok (.goto (-18), 3) := by decide +kernel
theorem d_To_search_23 : decode b_To_search 23 = .ok (.aload_n 0, 1) := by decide +kernel
theorem d_To_search_24 : decode b_To_search 24 = .ok (.ldc 44, 2) := by decide +kernel
theorem d_To_search_26 : decode b_To_search 26 = .ok (.putfield 25, 3) := by decide +kernel
theorem d_To_search_29 : decode b_To_search 29 = .ok (.iconst 0, 1) := by decide +kernel
theorem d_To_search_30 : decode b_To_search 30 = .ok (.istore_n 1, 1) := by decide +kernel
theorem d_To_search_31 : decode b_To_search 31 = .ok (.iload_n 1, 1) := by decide +kernel
theorem d_To_search_32 : decode b_To_search 32 = .ok (.sipush 720, 3) := by decide +kernel
theorem d_To_search_35 : decode b_To_search 35 = .ok (.if_icmp .ge 52, 3) := by decide +kernel
theorem d_To_search_38 : decode b_To_search 38 = .ok (.aload_n 0, 1) := by decide +kernel
theorem d_To_search_39 : decode b_To_search 39 = .ok (.invokevirtual 45, 3) := by decide +kernel
theorem d_To_search_42 : decode b_To_search 42 = .ok (.istore_n 2, 1) := by decide +kernel
theorem d_To_search_43 : decode b_To_search 43 = .ok (.iload_n 2, 1) := by decide +kernel
theorem d_To_search_44 : decode b_To_search 44 = .ok (.aload_n 0, 1) := by decide +kernel
theorem d_To_search_45 : decode b_To_search 45 = .ok (.getfield 25, 3) := by decide +kernel
theorem d_To_search_48 : decode b_To_search 48 = .ok (.if_icmp .ge 25, 3) := by decide +kernel
theorem d_To_search_51 : decode b_To_search 51 = .ok (.aload_n 0, 1) := by decide +kernel
theorem d_To_search_52 : decode b_To_search 52 = .ok (.iload_n 2, 1) := by decide +kernel
theorem d_To_search_53 : decode b_To_search 53 = .ok (.putfield 25, 3) := by decide +kernel
theorem d_To_search_56 : decode b_To_search 56 = .ok (.aload_n 0, 1) := by decide +kernel
theorem d_To_search_57 : decode b_To_search 57 = .ok (.getfield 15, 3) := by decide +kernel
theorem d_To_search_60 : decode b_To_search 60 = .ok (.iconst 0, 1) := by decide +kernel
theorem d_To_search_61 : decode b_To_search 61 = .ok (.aload_n 0, 1) := by decide +kernel
theorem d_To_search_62 : decode b_To_search 62 = .ok (.getfield 18, 3) := by decide +kernel
theorem d_To_search_65 : decode b_To_search 65 = .ok (.iconst 0, 1) := by decide +kernel
theorem d_To_search_66 : decode b_To_search 66 = .ok (.aload_n 0, 1) := by decide +kernel
theorem d_To_search_67 : decode b_To_search 67 = .ok (.getfield 21, 3) := by decide +kernel
theorem d_To_search_70 : decode b_To_search 70 = .ok (.invokestatic 49, 3) := by decide +kernel
theorem d_To_search_73 : decode b_To_search 73 = .ok (.aload_n 0, 1) := by decide +kernel
theorem d_To_search_74 : decode b_To_search 74 = .ok (.invokevirtual 55, 3) := by decide +kernel
theorem d_To_search_77 : decode b_To_search 77 = .ok (.ifCond .ne 4, 3) := by decide +kernel
theorem d_To_search_80 : decode b_To_search 80 = .ok (.return_, 1) := by decide +kernel
theorem d_To_search_81 : decode b_To_search 81 = .ok (.iinc 1 1, 3) := by decide +kernel
theorem d_To_search_84 : decode b_To_search 84 = .ok (.goto (-53), 3) := by decide +kernel
theorem d_To_search_87 : decode b_To_search 87 = .ok (.return_, 1) := by decide +kernel
theorem d_To_lengthOfOrder_0 : decode b_To_lengthOfOrder 0 = .ok (.iconst 0, 1) := by decide +kernel
theorem d_To_lengthOfOrder_1 : decode b_To_lengthOfOrder 1 = .ok (.istore_n 1, 1) := by decide +kernel
theorem d_To_lengthOfOrder_2 : decode b_To_lengthOfOrder 2 = .ok (.iconst 0, 1) := by decide +kernel
theorem d_To_lengthOfOrder_3 : decode b_To_lengthOfOrder 3 = .ok (.istore_n 2, 1) := by decide +kernel
theorem d_To_lengthOfOrder_4 : decode b_To_lengthOfOrder 4 = .ok (.iconst 0, 1) := by decide +kernel
theorem d_To_lengthOfOrder_5 : decode b_To_lengthOfOrder 5 = .ok (.istore_n 3, 1) := by decide +kernel
theorem d_To_lengthOfOrder_6 : decode b_To_lengthOfOrder 6 = .ok (.iload_n 3, 1) := by decide +kernel
theorem d_To_lengthOfOrder_7 : decode b_To_lengthOfOrder 7 = .ok (.aload_n 0, 1) := by decide +kernel
theorem d_To_lengthOfOrder_8 : decode b_To_lengthOfOrder 8 = .ok (.getfield 21, 3) := by decide +kernel
theorem d_To_lengthOfOrder_11 : decode b_To_lengthOfOrder 11 = .ok (.if_icmp .ge 39, 3) := by decide +kernel
theorem d_To_lengthOfOrder_14 : decode b_To_lengthOfOrder 14 = .ok (.iload_n 1, 1) := by decide +kernel
theorem d_To_lengthOfOrder_15 : decode b_To_lengthOfOrder 15 = .ok (.aload_n 0, 1) := by decide +kernel
theorem d_To_lengthOfOrder_16 : decode b_To_lengthOfOrder 16 = .ok (.getfield 11, 3) := by decide +kernel
theorem d_To_lengthOfOrder_19 : decode b_To_lengthOfOrder 19 = .ok (.iload_n 2, 1) := by decide +kernel
theorem d_To_lengthOfOrder_20 : decode b_To_lengthOfOrder 20 = .ok (.bipush 7, 2) := by decide +kernel
theorem d_To_lengthOfOrder_22 : decode b_To_lengthOfOrder 22 = .ok (.imul, 1) := by decide +kernel
theorem d_To_lengthOfOrder_23 : decode b_To_lengthOfOrder 23 = .ok (.aload_n 0, 1) := by decide +kernel
theorem d_To_lengthOfOrder_24 : decode b_To_lengthOfOrder 24 = .ok (.getfield 15, 3) := by decide +kernel
theorem d_To_lengthOfOrder_27 : decode b_To_lengthOfOrder 27 = .ok (.iload_n 3, 1) := by decide +kernel
theorem d_To_lengthOfOrder_28 : decode b_To_lengthOfOrder 28 = .ok (.iaload, 1) := by decide +kernel
theorem d_To_lengthOfOrder_29 : decode b_To_lengthOfOrder 29 = .ok (.iadd, 1) := by decide +kernel
theorem d_To_lengthOfOrder_30 : decode b_To_lengthOfOrder 30 = .ok (.iconst 1, 1) := by decide +kernel
theorem d_To_lengthOfOrder_31 : decode b_To_lengthOfOrder 31 = .ok (.iadd, 1) := by decide +kernel
theorem d_To_lengthOfOrder_32 : decode b_To_lengthOfOrder 32 = .ok (.iaload, 1) := by decide +kernel
theorem d_To_lengthOfOrder_33 : decode b_To_lengthOfOrder 33 = .ok (.iadd, 1) := by decide +kernel
theorem d_To_lengthOfOrder_34 : decode b_To_lengthOfOrder 34 = .ok (.istore_n 1, 1) := by decide +kernel
theorem d_To_lengthOfOrder_35 : decode b_To_lengthOfOrder 35 = .ok (.aload_n 0, 1) := by decide +kernel
theorem d_To_lengthOfOrder_36 : decode b_To_lengthOfOrder 36 = .ok (.getfield 15, 3) := by decide +kernel
theorem d_To_lengthOfOrder_39 : decode b_To_lengthOfOrder 39 = .ok (.iload_n 3, 1) := by decide +kernel
theorem d_To_lengthOfOrder_40 : decode b_To_lengthOfOrder 40 = .ok (.iaload, 1) := by decide +kernel
theorem d_To_lengthOfOrder_41 : decode b_To_lengthOfOrder 41 = .ok (.iconst 1, 1) := by decide +kernel
theorem d_To_lengthOfOrder_42 : decode b_To_lengthOfOrder 42 = .ok (.iadd, 1) := by decide +kernel
theorem d_To_lengthOfOrder_43 : decode b_To_lengthOfOrder 43 = .ok (.istore_n 2, 1) := by decide +kernel
theorem d_To_lengthOfOrder_44 : decode b_To_lengthOfOrder 44 = .ok (.iinc 3 1, 3) := by decide +kernel
theorem d_To_lengthOfOrder_47 : decode b_To_lengthOfOrder 47 = .ok (.goto (-41), 3) := by decide +kernel
theorem d_To_lengthOfOrder_50 : decode b_To_lengthOfOrder 50 = .ok (.iload_n 1, 1) := by decide +kernel
theorem d_To_lengthOfOrder_51 : decode b_To_lengthOfOrder 51 = .ok (.aload_n 0, 1) := by decide +kernel
theorem d_To_lengthOfOrder_52 : decode b_To_lengthOfOrder 52 = .ok (.getfield 11, 3) := by decide +kernel
theorem d_To_lengthOfOrder_55 : decode b_To_lengthOfOrder 55 = .ok (.iload_n 2, 1) := by decide +kernel
theorem d_To_lengthOfOrder_56 : decode b_To_lengthOfOrder 56 = .ok (.bipush 7, 2) := by decide +kernel
theorem d_To_lengthOfOrder_58 : decode b_To_lengthOfOrder 58 = .ok (.imul, 1) := by decide +kernel
theorem d_To_lengthOfOrder_59 : decode b_To_lengthOfOrder 59 = .ok (.iaload, 1) := by decide +kernel
theorem d_To_lengthOfOrder_60 : decode b_To_lengthOfOrder 60 = .ok (.iadd, 1) := by decide +kernel
theorem d_To_lengthOfOrder_61 : decode b_To_lengthOfOrder 61 = .ok (.ireturn, 1) := by decide +kernel
theorem d_To_stepOrder_0 : decode b_To_stepOrder 0 = .ok (.aload_n 0, 1) := by decide +kernel
theorem d_To_stepOrder_1 : decode b_To_stepOrder 1 = .ok (.getfield 21, 3) := by decide +kernel
theorem d_To_stepOrder_4 : decode b_To_stepOrder 4 = .ok (.iconst 2, 1) := by decide +kernel
theorem d_To_stepOrder_5 : decode b_To_stepOrder 5 = .ok (.isub, 1) := by decide +kernel
theorem d_To_stepOrder_6 : decode b_To_stepOrder 6 = .ok (.istore_n 1, 1) := by decide +kernel
theorem d_To_stepOrder_7 : decode b_To_stepOrder 7 = .ok (.iload_n 1, 1) := by decide +kernel
theorem d_To_stepOrder_8 : decode b_To_stepOrder 8 = .ok (.ifCond .lt 26, 3) := by decide +kernel
theorem d_To_stepOrder_11 : decode b_To_stepOrder 11 = .ok (.aload_n 0, 1) := by decide +kernel
theorem d_To_stepOrder_12 : decode b_To_stepOrder 12 = .ok (.getfield 15, 3) := by decide +kernel
theorem d_To_stepOrder_15 : decode b_To_stepOrder 15 = .ok (.iload_n 1, 1) := by decide +kernel
theorem d_To_stepOrder_16 : decode b_To_stepOrder 16 = .ok (.iaload, 1) := by decide +kernel
theorem d_To_stepOrder_17 : decode b_To_stepOrder 17 = .ok (.aload_n 0, 1) := by decide +kernel
theorem d_To_stepOrder_18 : decode b_To_stepOrder 18 = .ok (.getfield 15, 3) := by decide +kernel
theorem d_To_stepOrder_21 : decode b_To_stepOrder 21 = .ok (.iload_n 1, 1) := by decide +kernel
theorem d_To_stepOrder_22 : decode b_To_stepOrder 22 = .ok (.iconst 1, 1) := by decide +kernel
theorem d_To_stepOrder_23 : decode b_To_stepOrder 23 = .ok (.iadd, 1) := by decide +kernel
theorem d_To_stepOrder_24 : decode b_To_stepOrder 24 = .ok (.iaload, 1) := by decide +kernel
theorem d_To_stepOrder_25 : decode b_To_stepOrder 25 = .ok (.if_icmp .le 9, 3) := by decide +kernel
theorem d_To_stepOrder_28 : decode b_To_stepOrder 28 = .ok (.iinc 1 (-1), 3) := by decide +kernel
theorem d_To_stepOrder_31 : decode b_To_stepOrder 31 = .ok (.goto (-24), 3) := by decide +kernel
theorem d_To_stepOrder_34 : decode b_To_stepOrder 34 = .ok (.iload_n 1, 1) := by decide +kernel
theorem d_To_stepOrder_35 : decode b_To_stepOrder 35 = .ok (.ifCond .ge 5, 3) := by decide +kernel
theorem d_To_stepOrder_38 : decode b_To_stepOrder 38 = .ok (.iconst 0, 1) := by decide +kernel
theorem d_To_stepOrder_39 : decode b_To_stepOrder 39 = .ok (.ireturn, 1) := by decide +kernel
theorem d_To_stepOrder_40 : decode b_To_stepOrder 40 = .ok (.aload_n 0, 1) := by decide +kernel
theorem d_To_stepOrder_41 : decode b_To_stepOrder 41 = .ok (.getfield 21, 3) := by decide +kernel
theorem d_To_stepOrder_44 : decode b_To_stepOrder 44 = .ok (.iconst 1, 1) := by decide +kernel
theorem d_To_stepOrder_45 : decode b_To_stepOrder 45 = .ok (.isub, 1) := by decide +kernel
theorem d_To_stepOrder_46 : decode b_To_stepOrder 46 = .ok (.istore_n 2, 1) := by decide +kernel
theorem d_To_stepOrder_47 : decode b_To_stepOrder 47 = .ok (.iload_n 2, 1) := by decide +kernel
theorem d_To_stepOrder_48 : decode b_To_stepOrder 48 = .ok (.iload_n 1, 1) := by decide +kernel
theorem d_To_stepOrder_49 : decode b_To_stepOrder 49 = .ok (.if_icmp .le 24, 3) := by decide +kernel
theorem d_To_stepOrder_52 : decode b_To_stepOrder 52 = .ok (.aload_n 0, 1) := by decide +kernel
theorem d_To_stepOrder_53 : decode b_To_stepOrder 53 = .ok (.getfield 15, 3) := by decide +kernel
theorem d_To_stepOrder_56 : decode b_To_stepOrder 56 = .ok (.iload_n 2, 1) := by decide +kernel
theorem d_To_stepOrder_57 : decode b_To_stepOrder 57 = .ok (.iaload, 1) := by decide +kernel
theorem d_To_stepOrder_58 : decode b_To_stepOrder 58 = .ok (.aload_n 0, 1) := by decide +kernel
theorem d_To_stepOrder_59 : decode b_To_stepOrder 59 = .ok (.getfield 15, 3) := by decide +kernel
theorem d_To_stepOrder_62 : decode b_To_stepOrder 62 = .ok (.iload_n 1, 1) := by decide +kernel
theorem d_To_stepOrder_63 : decode b_To_stepOrder 63 = .ok (.iaload, 1) := by decide +kernel
theorem d_To_stepOrder_64 : decode b_To_stepOrder 64 = .ok (.if_icmp .ge 9, 3) := by decide +kernel
theorem d_To_stepOrder_67 : decode b_To_stepOrder 67 = .ok (.iinc 2 (-1), 3) := by decide +kernel
theorem d_To_stepOrder_70 : decode b_To_stepOrder 70 = .ok (.goto (-23), 3) := by decide +kernel
theorem d_To_stepOrder_73 : decode b_To_stepOrder 73 = .ok (.aload_n 0, 1) := by decide +kernel
theorem d_To_stepOrder_74 : decode b_To_stepOrder 74 = .ok (.iload_n 1, 1) := by decide +kernel
theorem d_To_stepOrder_75 : decode b_To_stepOrder 75 = .ok (.iload_n 2, 1) := by decide +kernel
theorem d_To_stepOrder_76 : decode b_To_stepOrder 76 = .ok (.invokevirtual 59, 3) := by decide +kernel
theorem d_To_stepOrder_79 : decode b_To_stepOrder 79 = .ok (.iload_n 1, 1) := by decide +kernel
theorem d_To_stepOrder_80 : decode b_To_stepOrder 80 = .ok (.iconst 1, 1) := by decide +kernel
theorem d_To_stepOrder_81 : decode b_To_stepOrder 81 = .ok (.iadd, 1) := by decide +kernel
theorem d_To_stepOrder_82 : decode b_To_stepOrder 82 = .ok (.istore_n 3, 1) := by decide +kernel
theorem d_To_stepOrder_83 : decode b_To_stepOrder 83 = .ok (.aload_n 0, 1) := by decide +kernel
theorem d_To_stepOrder_84 : decode b_To_stepOrder 84 = .ok (.getfield 21, 3) := by decide +kernel
theorem d_To_stepOrder_87 : decode b_To_stepOrder 87 = .ok (.iconst 1, 1) := by decide +kernel
theorem d_To_stepOrder_88 : decode b_To_stepOrder 88 = .ok (.isub, 1) := by decide +kernel
theorem d_To_stepOrder_89 : decode b_To_stepOrder 89 = .ok (.istore 4, 2) := by decide +kernel
theorem d_To_stepOrder_91 : decode b_To_stepOrder 91 = .ok (.iload_n 3, 1) := by decide +kernel
theorem d_To_stepOrder_92 : decode b_To_stepOrder 92 = .ok (.iload 4, 2) := by decide +kernel
theorem d_To_stepOrder_94 : decode b_To_stepOrder 94 = .ok (.if_icmp .ge 19, 3) := by decide +kernel
theorem d_To_stepOrder_97 : decode b_To_stepOrder 97 = .ok (.aload_n 0, 1) := by decide +kernel
theorem d_To_stepOrder_98 : decode b_To_stepOrder 98 = .ok (.iload_n 3, 1) := by decide +kernel
theorem d_To_stepOrder_99 : decode b_To_stepOrder 99 = .ok (.iload 4, 2) := by decide +kernel
theorem d_To_stepOrder_101 : decode b_To_stepOrder 101 = .ok (.invokevirtual 59, 3) := by decide +kernel
theorem d_To_stepOrder_104 : decode b_To_stepOrder 104 = .ok (.iinc 3 1, 3) := by decide +kernel
theorem d_To_stepOrder_107 : decode b_To_stepOrder 107 = .ok (.iinc 4 (-1), 3) := by decide +kernel
theorem d_To_stepOrder_110 : decode b_To_stepOrder 110 = .ok (.goto (-19), 3) := by decide +kernel
theorem d_To_stepOrder_113 : decode b_To_stepOrder 113 = .ok (.iconst 1, 1) := by decide +kernel
theorem d_To_stepOrder_114 : decode b_To_stepOrder 114 = .ok (.ireturn, 1) := by decide +kernel
theorem d_To_exchange_0 : decode b_To_exchange 0 = .ok (.aload_n 0, 1) := by decide +kernel
theorem d_To_exchange_1 : decode b_To_exchange 1 = .ok (.getfield 15, 3) := by decide +kernel
theorem d_To_exchange_4 : decode b_To_exchange 4 = .ok (.iload_n 1, 1) := by decide +kernel
theorem d_To_exchange_5 : decode b_To_exchange 5 = .ok (.iaload, 1) := by decide +kernel
theorem d_To_exchange_6 : decode b_To_exchange 6 = .ok (.istore_n 3, 1) := by decide +kernel
theorem d_To_exchange_7 : decode b_To_exchange 7 = .ok (.aload_n 0, 1) := by decide +kernel
theorem d_To_exchange_8 : decode b_To_exchange 8 = .ok (.getfield 15, 3) := by decide +kernel
theorem d_To_exchange_11 : decode b_To_exchange 11 = .ok (.iload_n 1, 1) := by decide +kernel
theorem d_To_exchange_12 : decode b_To_exchange 12 = .ok (.aload_n 0, 1) := by decide +kernel
theorem d_To_exchange_13 : decode b_To_exchange 13 = .ok (.getfield 15, 3) := by decide +kernel
theorem d_To_exchange_16 : decode b_To_exchange 16 = .ok (.iload_n 2, 1) := by decide +kernel
theorem d_To_exchange_17 : decode b_To_exchange 17 = .ok (.iaload, 1) := by decide +kernel
theorem d_To_exchange_18 : decode b_To_exchange 18 = .ok (.iastore, 1) := by decide +kernel
theorem d_To_exchange_19 : decode b_To_exchange 19 = .ok (.aload_n 0, 1) := by decide +kernel
theorem d_To_exchange_20 : decode b_To_exchange 20 = .ok (.getfield 15, 3) := by decide +kernel
theorem d_To_exchange_23 : decode b_To_exchange 23 = .ok (.iload_n 2, 1) := by decide +kernel
theorem d_To_exchange_24 : decode b_To_exchange 24 = .ok (.iload_n 3, 1) := by decide +kernel
theorem d_To_exchange_25 : decode b_To_exchange 25 = .ok (.iastore, 1) := by decide +kernel
theorem d_To_exchange_26 : decode b_To_exchange 26 = .ok (.return_, 1) := by decide +kernel
theorem d_Tn_init_0 : decode b_Tn_init 0 = .ok (.aload_n 0, 1) := by decide +kernel
theorem d_Tn_init_1 : decode b_Tn_init 1 = .ok (.invokespecial 5, 3) := by decide +kernel
theorem d_Tn_init_4 : decode b_Tn_init 4 = .ok (.aload_n 0, 1) := by decide +kernel
theorem d_Tn_init_5 : decode b_Tn_init 5 = .ok (.iconst 5, 1) := by decide +kernel
theorem d_Tn_init_6 : decode b_Tn_init 6 = .ok (.newarray .int, 2) := by decide +kernel
theorem d_Tn_init_8 : decode b_Tn_init 8 = .ok (.putfield 11, 3) := by decide +kernel
theorem d_Tn_init_11 : decode b_Tn_init 11 = .ok (.aload_n 0, 1) := by decide +kernel
theorem d_Tn_init_12 : decode b_Tn_init 12 = .ok (.sipush 1220, 3) := by decide +kernel
theorem d_Tn_init_15 : decode b_Tn_init 15 = .ok (.newarray .int, 2) := by decide +kernel
theorem d_Tn_init_17 : decode b_Tn_init 17 = .ok (.putfield 15, 3) := by decide +kernel
theorem d_Tn_init_20 : decode b_Tn_init 20 = .ok (.aload_n 0, 1) := by decide +kernel
theorem d_Tn_init_21 : decode b_Tn_init 21 = .ok (.iconst 0, 1) := by decide +kernel
theorem d_Tn_init_22 : decode b_Tn_init 22 = .ok (.putfield 18, 3) := by decide +kernel
theorem d_Tn_init_25 : decode b_Tn_init 25 = .ok (.aload_n 0, 1) := by decide +kernel
theorem d_Tn_init_26 : decode b_Tn_init 26 = .ok (.iconst 0, 1) := by decide +kernel
theorem d_Tn_init_27 : decode b_Tn_init 27 = .ok (.putfield 22, 3) := by decide +kernel
theorem d_Tn_init_30 : decode b_Tn_init 30 = .ok (.return_, 1) := by decide +kernel
theorem d_Tn_settle_0 : decode b_Tn_settle 0 = .ok (.aload_n 0, 1) := by decide +kernel
theorem d_Tn_settle_1 : decode b_Tn_settle 1 = .ok (.iconst 0, 1) := by decide +kernel
theorem d_Tn_settle_2 : decode b_Tn_settle 2 = .ok (.aload_n 1, 1) := by decide +kernel
theorem d_Tn_settle_3 : decode b_Tn_settle 3 = .ok (.getfield 25, 3) := by decide +kernel
theorem d_Tn_settle_6 : decode b_Tn_settle 6 = .ok (.iconst 5, 1) := by decide +kernel
theorem d_Tn_settle_7 : decode b_Tn_settle 7 = .ok (.invokestatic 28, 3) := by decide +kernel
theorem d_Tn_settle_10 : decode b_Tn_settle 10 = .ok (.invokestatic 34, 3) := by decide +kernel
theorem d_Tn_settle_13 : decode b_Tn_settle 13 = .ok (.putfield 18, 3) := by decide +kernel
theorem d_Tn_settle_16 : decode b_Tn_settle 16 = .ok (.aload_n 0, 1) := by decide +kernel
theorem d_Tn_settle_17 : decode b_Tn_settle 17 = .ok (.iconst 0, 1) := by decide +kernel
theorem d_Tn_settle_18 : decode b_Tn_settle 18 = .ok (.putfield 22, 3) := by decide +kernel
theorem d_Tn_settle_21 : decode b_Tn_settle 21 = .ok (.iconst 0, 1) := by decide +kernel
theorem d_Tn_settle_22 : decode b_Tn_settle 22 = .ok (.istore_n 3, 1) := by decide +kernel
theorem d_Tn_settle_23 : decode b_Tn_settle 23 = .ok (.iload_n 3, 1) := by decide +kernel
theorem d_Tn_settle_24 : decode b_Tn_settle 24 = .ok (.aload_n 0, 1) := by decide +kernel
theorem d_Tn_settle_25 : decode b_Tn_settle 25 = .ok (.getfield 18, 3) := by decide +kernel
theorem d_Tn_settle_28 : decode b_Tn_settle 28 = .ok (.if_icmp .ge 81, 3) := by decide +kernel
theorem d_Tn_settle_31 : decode b_Tn_settle 31 = .ok (.aload_n 0, 1) := by decide +kernel
theorem d_Tn_settle_32 : decode b_Tn_settle 32 = .ok (.getfield 11, 3) := by decide +kernel
theorem d_Tn_settle_35 : decode b_Tn_settle 35 = .ok (.iload_n 3, 1) := by decide +kernel
theorem d_Tn_settle_36 : decode b_Tn_settle 36 = .ok (.aload_n 1, 1) := by decide +kernel
theorem d_Tn_settle_37 : decode b_Tn_settle 37 = .ok (.getfield 37, 3) := by decide +kernel
theorem d_Tn_settle_40 : decode b_Tn_settle 40 = .ok (.iload_n 3, 1) := by decide +kernel
theorem d_Tn_settle_41 : decode b_Tn_settle 41 = .ok (.iaload, 1) := by decide +kernel
theorem d_Tn_settle_42 : decode b_Tn_settle 42 = .ok (.iastore, 1) := by decide +kernel
theorem d_Tn_settle_43 : decode b_Tn_settle 43 = .ok (.aload_n 2, 1) := by decide +kernel
theorem d_Tn_settle_44 : decode b_Tn_settle 44 = .ok (.aload_n 1, 1) := by decide +kernel
theorem d_Tn_settle_45 : decode b_Tn_settle 45 = .ok (.getfield 38, 3) := by decide +kernel
theorem d_Tn_settle_48 : decode b_Tn_settle 48 = .ok (.iload_n 3, 1) := by decide +kernel
theorem d_Tn_settle_49 : decode b_Tn_settle 49 = .ok (.iaload, 1) := by decide +kernel
theorem d_Tn_settle_50 : decode b_Tn_settle 50 = .ok (.invokevirtual 41, 3) := by decide +kernel
theorem d_Tn_settle_53 : decode b_Tn_settle 53 = .ok (.aload_n 0, 1) := by decide +kernel
theorem d_Tn_settle_54 : decode b_Tn_settle 54 = .ok (.getfield 15, 3) := by decide +kernel
theorem d_Tn_settle_57 : decode b_Tn_settle 57 = .ok (.iload_n 3, 1) := by decide +kernel
theorem d_Tn_settle_58 : decode b_Tn_settle 58 = .ok (.iconst 4, 1) := by decide +kernel
theorem d_Tn_settle_59 : decode b_Tn_settle 59 = .ok (.imul, 1) := by decide +kernel
theorem d_Tn_settle_60 : decode b_Tn_settle 60 = .ok (.aload_n 2, 1) := by decide +kernel
theorem d_Tn_settle_61 : decode b_Tn_settle 61 = .ok (.invokevirtual 47, 3) := by decide +kernel
theorem d_Tn_settle_64 : decode b_Tn_settle 64 = .ok (.iastore, 1) := by decide +kernel
theorem d_Tn_settle_65 : decode b_Tn_settle 65 = .ok (.aload_n 0, 1) := by decide +kernel
theorem d_Tn_settle_66 : decode b_Tn_settle 66 = .ok (.getfield 15, 3) := by decide +kernel
theorem d_Tn_settle_69 : decode b_Tn_settle 69 = .ok (.iload_n 3, 1) := by decide +kernel
theorem d_Tn_settle_70 : decode b_Tn_settle 70 = .ok (.iconst 4, 1) := by decide +kernel
theorem d_Tn_settle_71 : decode b_Tn_settle 71 = .ok (.imul, 1) := by decide +kernel
theorem d_Tn_settle_72 : decode b_Tn_settle 72 = .ok (.iconst 1, 1) := by decide +kernel
theorem d_Tn_settle_73 : decode b_Tn_settle 73 = .ok (.iadd, 1) := by decide +kernel
theorem d_Tn_settle_74 : decode b_Tn_settle 74 = .ok (.aload_n 1, 1) := by decide +kernel
theorem d_Tn_settle_75 : decode b_Tn_settle 75 = .ok (.getfield 51, 3) := by decide +kernel
theorem d_Tn_settle_78 : decode b_Tn_settle 78 = .ok (.iload_n 3, 1) := by decide +kernel
theorem d_Tn_settle_79 : decode b_Tn_settle 79 = .ok (.iaload, 1) := by decide +kernel
theorem d_Tn_settle_80 : decode b_Tn_settle 80 = .ok (.iastore, 1) := by decide +kernel
theorem d_Tn_settle_81 : decode b_Tn_settle 81 = .ok (.aload_n 0, 1) := by decide +kernel
theorem d_Tn_settle_82 : decode b_Tn_settle 82 = .ok (.getfield 15, 3) := by decide +kernel
theorem d_Tn_settle_85 : decode b_Tn_settle 85 = .ok (.iload_n 3, 1) := by decide +kernel
theorem d_Tn_settle_86 : decode b_Tn_settle 86 = .ok (.iconst 4, 1) := by decide +kernel
theorem d_Tn_settle_87 : decode b_Tn_settle 87 = .ok (.imul, 1) := by decide +kernel
theorem d_Tn_settle_88 : decode b_Tn_settle 88 = .ok (.iconst 2, 1) := by decide +kernel
theorem d_Tn_settle_89 : decode b_Tn_settle 89 = .ok (.iadd, 1) := by decide +kernel
theorem d_Tn_settle_90 : decode b_Tn_settle 90 = .ok (.iconst 0, 1) := by decide +kernel
theorem d_Tn_settle_91 : decode b_Tn_settle 91 = .ok (.iastore, 1) := by decide +kernel
theorem d_Tn_settle_92 : decode b_Tn_settle 92 = .ok (.aload_n 0, 1) := by decide +kernel
theorem d_Tn_settle_93 : decode b_Tn_settle 93 = .ok (.getfield 15, 3) := by decide +kernel
theorem d_Tn_settle_96 : decode b_Tn_settle 96 = .ok (.iload_n 3, 1) := by decide +kernel
theorem d_Tn_settle_97 : decode b_Tn_settle 97 = .ok (.iconst 4, 1) := by decide +kernel
theorem d_Tn_settle_98 : decode b_Tn_settle 98 = .ok (.imul, 1) := by decide +kernel
theorem d_Tn_settle_99 : decode b_Tn_settle 99 = .ok (.iconst 3, 1) := by decide +kernel
theorem d_Tn_settle_100 : decode b_Tn_settle 100 = .ok (.iadd, 1) := by decide +kernel
theorem d_Tn_settle_101 : decode b_Tn_settle 101 = .ok (.iconst 0, 1) := by decide +kernel
theorem d_Tn_settle_102 : decode b_Tn_settle 102 = .ok (.iastore, 1) := by decide +kernel
theorem d_Tn_settle_103 : decode b_Tn_settle 103 = .ok (.iinc 3 1, 3) := by decide +kernel
theorem d_Tn_settle_106 : decode b_Tn_settle 106 = .ok (.goto (-83), 3) := by decide +kernel
theorem d_Tn_settle_109 : decode b_Tn_settle 109 = .ok (.return_, 1) := by decide +kernel
theorem d_Tn_becomes_0 : decode b_Tn_becomes 0 = .ok (.aload_n 0, 1) := by decide +kernel
theorem d_Tn_becomes_1 : decode b_Tn_becomes 1 = .ok (.aload_n 1, 1) := by decide +kernel
theorem d_Tn_becomes_2 : decode b_Tn_becomes 2 = .ok (.getfield 18, 3) := by decide +kernel
theorem d_Tn_becomes_5 : decode b_Tn_becomes 5 = .ok (.putfield 18, 3) := by decide +kernel
theorem d_Tn_becomes_8 : decode b_Tn_becomes 8 = .ok (.aload_n 0, 1) := by decide +kernel
theorem d_Tn_becomes_9 : decode b_Tn_becomes 9 = .ok (.aload_n 1, 1) := by decide +kernel
theorem d_Tn_becomes_10 : decode b_Tn_becomes 10 = .ok (.getfield 22, 3) := by decide +kernel
theorem d_Tn_becomes_13 : decode b_Tn_becomes 13 = .ok (.putfield 22, 3) := by decide +kernel
theorem d_Tn_becomes_16 : decode b_Tn_becomes 16 = .ok (.aload_n 1, 1) := by decide +kernel
theorem d_Tn_becomes_17 : decode b_Tn_becomes 17 = .ok (.getfield 11, 3) := by decide +kernel
theorem d_Tn_becomes_20 : decode b_Tn_becomes 20 = .ok (.iconst 0, 1) := by decide +kernel
theorem d_Tn_becomes_21 : decode b_Tn_becomes 21 = .ok (.aload_n 0, 1) := by decide +kernel
theorem d_Tn_becomes_22 : decode b_Tn_becomes 22 = .ok (.getfield 11, 3) := by decide +kernel
theorem d_Tn_becomes_25 : decode b_Tn_becomes 25 = .ok (.iconst 0, 1) := by decide +kernel
theorem d_Tn_becomes_26 : decode b_Tn_becomes 26 = .ok (.iconst 5, 1) := by decide +kernel
theorem d_Tn_becomes_27 : decode b_Tn_becomes 27 = .ok (.invokestatic 54, 3) := by decide +kernel
theorem d_Tn_becomes_30 : decode b_Tn_becomes 30 = .ok (.aload_n 1, 1) := by decide +kernel
theorem d_Tn_becomes_31 : decode b_Tn_becomes 31 = .ok (.getfield 15, 3) := by decide +kernel
theorem d_Tn_becomes_34 : decode b_Tn_becomes 34 = .ok (.iconst 0, 1) := by decide +kernel
theorem d_Tn_becomes_35 : decode b_Tn_becomes 35 = .ok (.aload_n 0, 1) := by decide +kernel
theorem d_Tn_becomes_36 : decode b_Tn_becomes 36 = .ok (.getfield 15, 3) := by decide +kernel
theorem d_Tn_becomes_39 : decode b_Tn_becomes 39 = .ok (.iconst 0, 1) := by decide +kernel
theorem d_Tn_becomes_40 : decode b_Tn_becomes 40 = .ok (.sipush 1220, 3) := by decide +kernel
theorem d_Tn_becomes_43 : decode b_Tn_becomes 43 = .ok (.invokestatic 54, 3) := by decide +kernel
theorem d_Tn_becomes_46 : decode b_Tn_becomes 46 = .ok (.return_, 1) := by decide +kernel
theorem d_Tn_load_0 : decode b_Tn_load 0 = .ok (.iload_n 1, 1) := by decide +kernel
theorem d_Tn_load_1 : decode b_Tn_load 1 = .ok (.ifCond .lt 11, 3) := by decide +kernel
theorem d_Tn_load_4 : decode b_Tn_load 4 = .ok (.iload_n 1, 1) := by decide +kernel
theorem d_Tn_load_5 : decode b_Tn_load 5 = .ok (.aload_n 0, 1) := by decide +kernel
theorem d_Tn_load_6 : decode b_Tn_load 6 = .ok (.getfield 18, 3) := by decide +kernel
theorem d_Tn_load_9 : decode b_Tn_load 9 = .ok (.if_icmp .lt 4, 3) := by decide +kernel
theorem d_Tn_load_12 : decode b_Tn_load 12 = .ok (.return_, 1) := by decide +kernel
theorem d_Tn_load_13 : decode b_Tn_load 13 = .ok (.aload_n 0, 1) := by decide +kernel
theorem d_Tn_load_14 : decode b_Tn_load 14 = .ok (.getfield 22, 3) := by decide +kernel
theorem d_Tn_load_17 : decode b_Tn_load 17 = .ok (.bipush 20, 2) := by decide +kernel
theorem d_Tn_load_19 : decode b_Tn_load 19 = .ok (.imul, 1) := by decide +kernel
theorem d_Tn_load_20 : decode b_Tn_load 20 = .ok (.iload_n 1, 1) := by decide +kernel
theorem d_Tn_load_21 : decode b_Tn_load 21 = .ok (.iconst 4, 1) := by decide +kernel
theorem d_Tn_load_22 : decode b_Tn_load 22 = .ok (.imul, 1) := by decide +kernel
theorem d_Tn_load_23 : decode b_Tn_load 23 = .ok (.iadd, 1) := by decide +kernel
theorem d_Tn_load_24 : decode b_Tn_load 24 = .ok (.istore_n 3, 1) := by decide +kernel
theorem d_Tn_load_25 : decode b_Tn_load 25 = .ok (.aload_n 2, 1) := by decide +kernel
theorem d_Tn_load_26 : decode b_Tn_load 26 = .ok (.aload_n 0, 1) := by decide +kernel
theorem d_Tn_load_27 : decode b_Tn_load 27 = .ok (.getfield 11, 3) := by decide +kernel
theorem d_Tn_load_30 : decode b_Tn_load 30 = .ok (.iload_n 1, 1) := by decide +kernel
theorem d_Tn_load_31 : decode b_Tn_load 31 = .ok (.iaload, 1) := by decide +kernel
theorem d_Tn_load_32 : decode b_Tn_load 32 = .ok (.putfield 60, 3) := by decide +kernel
theorem d_Tn_load_35 : decode b_Tn_load 35 = .ok (.aload_n 2, 1) := by decide +kernel
theorem d_Tn_load_36 : decode b_Tn_load 36 = .ok (.aload_n 0, 1) := by decide +kernel
theorem d_Tn_load_37 : decode b_Tn_load 37 = .ok (.getfield 15, 3) := by decide +kernel
theorem d_Tn_load_40 : decode b_Tn_load 40 = .ok (.iload_n 3, 1) := by decide +kernel
theorem d_Tn_load_41 : decode b_Tn_load 41 = .ok (.iaload, 1) := by decide +kernel
theorem d_Tn_load_42 : decode b_Tn_load 42 = .ok (.putfield 65, 3) := by decide +kernel
theorem d_Tn_load_45 : decode b_Tn_load 45 = .ok (.aload_n 2, 1) := by decide +kernel
theorem d_Tn_load_46 : decode b_Tn_load 46 = .ok (.aload_n 0, 1) := by decide +kernel
theorem d_Tn_load_47 : decode b_Tn_load 47 = .ok (.getfield 15, 3) := by decide +kernel
theorem d_Tn_load_50 : decode b_Tn_load 50 = .ok (.iload_n 3, 1) := by decide +kernel
theorem d_Tn_load_51 : decode b_Tn_load 51 = .ok (.iconst 1, 1) := by decide +kernel
theorem d_Tn_load_52 : decode b_Tn_load 52 = .ok (.iadd, 1) := by decide +kernel
theorem d_Tn_load_53 : decode b_Tn_load 53 = .ok (.iaload, 1) := by decide +kernel
theorem d_Tn_load_54 : decode b_Tn_load 54 = .ok (.putfield 68, 3) := by decide +kernel
theorem d_Tn_load_57 : decode b_Tn_load 57 = .ok (.aload_n 2, 1) := by decide +kernel
theorem d_Tn_load_58 : decode b_Tn_load 58 = .ok (.aload_n 0, 1) := by decide +kernel
theorem d_Tn_load_59 : decode b_Tn_load 59 = .ok (.getfield 15, 3) := by decide +kernel
theorem d_Tn_load_62 : decode b_Tn_load 62 = .ok (.iload_n 3, 1) := by decide +kernel
theorem d_Tn_load_63 : decode b_Tn_load 63 = .ok (.iconst 2, 1) := by decide +kernel
theorem d_Tn_load_64 : decode b_Tn_load 64 = .ok (.iadd, 1) := by decide +kernel
theorem d_Tn_load_65 : decode b_Tn_load 65 = .ok (.iaload, 1) := by decide +kernel
theorem d_Tn_load_66 : decode b_Tn_load 66 = .ok (.putfield 71, 3) := by decide +kernel
theorem d_Tn_load_69 : decode b_Tn_load 69 = .ok (.aload_n 2, 1) := by decide +kernel
theorem d_Tn_load_70 : decode b_Tn_load 70 = .ok (.aload_n 0, 1) := by decide +kernel
theorem d_Tn_load_71 : decode b_Tn_load 71 = .ok (.getfield 15, 3) := by decide +kernel
theorem d_Tn_load_74 : decode b_Tn_load 74 = .ok (.iload_n 3, 1) := by decide +kernel
theorem d_Tn_load_75 : decode b_Tn_load 75 = .ok (.iconst 3, 1) := by decide +kernel
theorem d_Tn_load_76 : decode b_Tn_load 76 = .ok (.iadd, 1) := by decide +kernel
theorem d_Tn_load_77 : decode b_Tn_load 77 = .ok (.iaload, 1) := by decide +kernel
theorem d_Tn_load_78 : decode b_Tn_load 78 = .ok (.putfield 74, 3) := by decide +kernel
theorem d_Tn_load_81 : decode b_Tn_load 81 = .ok (.return_, 1) := by decide +kernel
theorem d_Tn_store_0 : decode b_Tn_store 0 = .ok (.iload_n 1, 1) := by decide +kernel
theorem d_Tn_store_1 : decode b_Tn_store 1 = .ok (.ifCond .lt 11, 3) := by decide +kernel
theorem d_Tn_store_4 : decode b_Tn_store 4 = .ok (.iload_n 1, 1) := by decide +kernel
theorem d_Tn_store_5 : decode b_Tn_store 5 = .ok (.aload_n 0, 1) := by decide +kernel
theorem d_Tn_store_6 : decode b_Tn_store 6 = .ok (.getfield 18, 3) := by decide +kernel
theorem d_Tn_store_9 : decode b_Tn_store 9 = .ok (.if_icmp .lt 4, 3) := by decide +kernel
theorem d_Tn_store_12 : decode b_Tn_store 12 = .ok (.return_, 1) := by decide +kernel
theorem d_Tn_store_13 : decode b_Tn_store 13 = .ok (.aload_n 0, 1) := by decide +kernel
theorem d_Tn_store_14 : decode b_Tn_store 14 = .ok (.getfield 22, 3) := by decide +kernel
theorem d_Tn_store_17 : decode b_Tn_store 17 = .ok (.bipush 20, 2) := by decide +kernel
theorem d_Tn_store_19 : decode b_Tn_store 19 = .ok (.imul, 1) := by decide +kernel
theorem d_Tn_store_20 : decode b_Tn_store 20 = .ok (.iload_n 1, 1) := by decide +kernel
theorem d_Tn_store_21 : decode b_Tn_store 21 = .ok (.iconst 4, 1) := by decide +kernel
theorem d_Tn_store_22 : decode b_Tn_store 22 = .ok (.imul, 1) := by decide +kernel
theorem d_Tn_store_23 : decode b_Tn_store 23 = .ok (.iadd, 1) := by decide +kernel
theorem d_Tn_store_24 : decode b_Tn_store 24 = .ok (.istore_n 3, 1) := by decide +kernel
theorem d_Tn_store_25 : decode b_Tn_store 25 = .ok (.aload_n 0, 1) := by decide +kernel
theorem d_Tn_store_26 : decode b_Tn_store 26 = .ok (.getfield 15, 3) := by decide +kernel
theorem d_Tn_store_29 : decode b_Tn_store 29 = .ok (.iload_n 3, 1) := by decide +kernel
theorem d_Tn_store_30 : decode b_Tn_store 30 = .ok (.aload_n 2, 1) := by decide +kernel
theorem d_Tn_store_31 : decode b_Tn_store 31 = .ok (.getfield 65, 3) := by decide +kernel
theorem d_Tn_store_34 : decode b_Tn_store 34 = .ok (.iastore, 1) := by decide +kernel
theorem d_Tn_store_35 : decode b_Tn_store 35 = .ok (.aload_n 0, 1) := by decide +kernel
theorem d_Tn_store_36 : decode b_Tn_store 36 = .ok (.getfield 15, 3) := by decide +kernel
theorem d_Tn_store_39 : decode b_Tn_store 39 = .ok (.iload_n 3, 1) := by decide +kernel
theorem d_Tn_store_40 : decode b_Tn_store 40 = .ok (.iconst 1, 1) := by decide +kernel
theorem d_Tn_store_41 : decode b_Tn_store 41 = .ok (.iadd, 1) := by decide +kernel
theorem d_Tn_store_42 : decode b_Tn_store 42 = .ok (.aload_n 2, 1) := by decide +kernel
theorem d_Tn_store_43 : decode b_Tn_store 43 = .ok (.getfield 68, 3) := by decide +kernel
theorem d_Tn_store_46 : decode b_Tn_store 46 = .ok (.iastore, 1) := by decide +kernel
theorem d_Tn_store_47 : decode b_Tn_store 47 = .ok (.aload_n 0, 1) := by decide +kernel
theorem d_Tn_store_48 : decode b_Tn_store 48 = .ok (.getfield 15, 3) := by decide +kernel
theorem d_Tn_store_51 : decode b_Tn_store 51 = .ok (.iload_n 3, 1) := by decide +kernel
theorem d_Tn_store_52 : decode b_Tn_store 52 = .ok (.iconst 2, 1) := by decide +kernel
theorem d_Tn_store_53 : decode b_Tn_store 53 = .ok (.iadd, 1) := by decide +kernel
theorem d_Tn_store_54 : decode b_Tn_store 54 = .ok (.aload_n 2, 1) := by decide +kernel
theorem d_Tn_store_55 : decode b_Tn_store 55 = .ok (.getfield 71, 3) := by decide +kernel
theorem d_Tn_store_58 : decode b_Tn_store 58 = .ok (.iastore, 1) := by decide +kernel
theorem d_Tn_store_59 : decode b_Tn_store 59 = .ok (.aload_n 0, 1) := by decide +kernel
theorem d_Tn_store_60 : decode b_Tn_store 60 = .ok (.getfield 15, 3) := by decide +kernel
theorem d_Tn_store_63 : decode b_Tn_store 63 = .ok (.iload_n 3, 1) := by decide +kernel
theorem d_Tn_store_64 : decode b_Tn_store 64 = .ok (.iconst 3, 1) := by decide +kernel
theorem d_Tn_store_65 : decode b_Tn_store 65 = .ok (.iadd, 1) := by decide +kernel
theorem d_Tn_store_66 : decode b_Tn_store 66 = .ok (.aload_n 2, 1) := by decide +kernel
theorem d_Tn_store_67 : decode b_Tn_store 67 = .ok (.getfield 74, 3) := by decide +kernel
theorem d_Tn_store_70 : decode b_Tn_store 70 = .ok (.iastore, 1) := by decide +kernel
theorem d_Tn_store_71 : decode b_Tn_store 71 = .ok (.return_, 1) := by decide +kernel
theorem d_Tn_passHour_0 : decode b_Tn_passHour 0 = .ok (.aload_n 0, 1) := by decide +kernel
theorem d_Tn_passHour_1 : decode b_Tn_passHour 1 = .ok (.getfield 22, 3) := by decide +kernel
theorem d_Tn_passHour_4 : decode b_Tn_passHour 4 = .ok (.bipush 60, 2) := by decide +kernel
theorem d_Tn_passHour_6 : decode b_Tn_passHour 6 = .ok (.if_icmp .lt 4, 3) := by decide +kernel
theorem d_Tn_passHour_9 : decode b_Tn_passHour 9 = .ok (.return_, 1) := by decide +kernel
theorem d_Tn_passHour_10 : decode b_Tn_passHour 10 = .ok (.aload_n 0, 1) := by decide +kernel
theorem d_Tn_passHour_11 : decode b_Tn_passHour 11 = .ok (.getfield 15, 3) := by decide +kernel
theorem d_Tn_passHour_14 : decode b_Tn_passHour 14 = .ok (.aload_n 0, 1) := by decide +kernel
theorem d_Tn_passHour_15 : decode b_Tn_passHour 15 = .ok (.getfield 22, 3) := by decide +kernel
theorem d_Tn_passHour_18 : decode b_Tn_passHour 18 = .ok (.bipush 20, 2) := by decide +kernel
theorem d_Tn_passHour_20 : decode b_Tn_passHour 20 = .ok (.imul, 1) := by decide +kernel
theorem d_Tn_passHour_21 : decode b_Tn_passHour 21 = .ok (.aload_n 0, 1) := by decide +kernel
theorem d_Tn_passHour_22 : decode b_Tn_passHour 22 = .ok (.getfield 15, 3) := by decide +kernel
theorem d_Tn_passHour_25 : decode b_Tn_passHour 25 = .ok (.aload_n 0, 1) := by decide +kernel
theorem d_Tn_passHour_26 : decode b_Tn_passHour 26 = .ok (.getfield 22, 3) := by decide +kernel
theorem d_Tn_passHour_29 : decode b_Tn_passHour 29 = .ok (.iconst 1, 1) := by decide +kernel
theorem d_Tn_passHour_30 : decode b_Tn_passHour 30 = .ok (.iadd, 1) := by decide +kernel
theorem d_Tn_passHour_31 : decode b_Tn_passHour 31 = .ok (.bipush 20, 2) := by decide +kernel
theorem d_Tn_passHour_33 : decode b_Tn_passHour 33 = .ok (.imul, 1) := by decide +kernel
theorem d_Tn_passHour_34 : decode b_Tn_passHour 34 = .ok (.bipush 20, 2) := by decide +kernel
theorem d_Tn_passHour_36 : decode b_Tn_passHour 36 = .ok (.invokestatic 54, 3) := by decide +kernel
theorem d_Tn_passHour_39 : decode b_Tn_passHour 39 = .ok (.aload_n 0, 1) := by decide +kernel
theorem d_Tn_passHour_40 : decode b_Tn_passHour 40 = .ok (.dup, 1) := by decide +kernel
theorem d_Tn_passHour_41 : decode b_Tn_passHour 41 = .ok (.getfield 22, 3) := by decide +kernel
theorem d_Tn_passHour_44 : decode b_Tn_passHour 44 = .ok (.iconst 1, 1) := by decide +kernel
theorem d_Tn_passHour_45 : decode b_Tn_passHour 45 = .ok (.iadd, 1) := by decide +kernel
theorem d_Tn_passHour_46 : decode b_Tn_passHour 46 = .ok (.putfield 22, 3) := by decide +kernel
theorem d_Tn_passHour_49 : decode b_Tn_passHour 49 = .ok (.iconst 0, 1) := by decide +kernel
theorem d_Tn_passHour_50 : decode b_Tn_passHour 50 = .ok (.istore_n 3, 1) := by decide +kernel
theorem d_Tn_passHour_51 : decode b_Tn_passHour 51 = .ok (.iload_n 3, 1) := by decide +kernel
theorem d_Tn_passHour_52 : decode b_Tn_passHour 52 = .ok (.aload_n 0, 1) := by decide +kernel
theorem d_Tn_passHour_53 : decode b_Tn_passHour 53 = .ok (.getfield 18, 3) := by decide +kernel
theorem d_Tn_passHour_56 : decode b_Tn_passHour 56 = .ok (.if_icmp .ge 26, 3) := by decide +kernel
theorem d_Tn_passHour_59 : decode b_Tn_passHour 59 = .ok (.aload_n 0, 1) := by decide +kernel
theorem d_Tn_passHour_60 : decode b_Tn_passHour 60 = .ok (.iload_n 3, 1) := by decide +kernel
theorem d_Tn_passHour_61 : decode b_Tn_passHour 61 = .ok (.aload_n 1, 1) := by decide +kernel
theorem d_Tn_passHour_62 : decode b_Tn_passHour 62 = .ok (.invokevirtual 77, 3) := by decide +kernel
theorem d_Tn_passHour_65 : decode b_Tn_passHour 65 = .ok (.aload_n 1, 1) := by decide +kernel
theorem d_Tn_passHour_66 : decode b_Tn_passHour 66 = .ok (.aload_n 2, 1) := by decide +kernel
theorem d_Tn_passHour_67 : decode b_Tn_passHour 67 = .ok (.invokevirtual 81, 3) := by decide +kernel
theorem d_Tn_passHour_70 : decode b_Tn_passHour 70 = .ok (.aload_n 0, 1) := by decide +kernel
theorem d_Tn_passHour_71 : decode b_Tn_passHour 71 = .ok (.iload_n 3, 1) := by decide +kernel
theorem d_Tn_passHour_72 : decode b_Tn_passHour 72 = .ok (.aload_n 1, 1) := by decide +kernel
theorem d_Tn_passHour_73 : decode b_Tn_passHour 73 = .ok (.invokevirtual 85, 3) := by decide +kernel
theorem d_Tn_passHour_76 : decode b_Tn_passHour 76 = .ok (.iinc 3 1, 3) := by decide +kernel
theorem d_Tn_passHour_79 : decode b_Tn_passHour 79 = .ok (.goto (-28), 3) := by decide +kernel
theorem d_Tn_passHour_82 : decode b_Tn_passHour 82 = .ok (.return_, 1) := by decide +kernel
theorem d_Tn_placeOf_0 : decode b_Tn_placeOf 0 = .ok (.aload_n 0, 1) := by decide +kernel
theorem d_Tn_placeOf_1 : decode b_Tn_placeOf 1 = .ok (.getfield 15, 3) := by decide +kernel
theorem d_Tn_placeOf_4 : decode b_Tn_placeOf 4 = .ok (.aload_n 0, 1) := by decide +kernel
theorem d_Tn_placeOf_5 : decode b_Tn_placeOf 5 = .ok (.getfield 22, 3) := by decide +kernel
theorem d_Tn_placeOf_8 : decode b_Tn_placeOf 8 = .ok (.bipush 20, 2) := by decide +kernel
theorem d_Tn_placeOf_10 : decode b_Tn_placeOf 10 = .ok (.imul, 1) := by decide +kernel
theorem d_Tn_placeOf_11 : decode b_Tn_placeOf 11 = .ok (.iload_n 1, 1) := by decide +kernel
theorem d_Tn_placeOf_12 : decode b_Tn_placeOf 12 = .ok (.iconst 4, 1) := by decide +kernel
theorem d_Tn_placeOf_13 : decode b_Tn_placeOf 13 = .ok (.imul, 1) := by decide +kernel
theorem d_Tn_placeOf_14 : decode b_Tn_placeOf 14 = .ok (.iadd, 1) := by decide +kernel
theorem d_Tn_placeOf_15 : decode b_Tn_placeOf 15 = .ok (.iaload, 1) := by decide +kernel
theorem d_Tn_placeOf_16 : decode b_Tn_placeOf 16 = .ok (.ireturn, 1) := by decide +kernel
theorem d_Tn_othersAt_0 : decode b_Tn_othersAt 0 = .ok (.iconst 0, 1) := by decide +kernel
theorem d_Tn_othersAt_1 : decode b_Tn_othersAt 1 = .ok (.istore_n 2, 1) := by decide +kernel
theorem d_Tn_othersAt_2 : decode b_Tn_othersAt 2 = .ok (.iconst 0, 1) := by decide +kernel
theorem d_Tn_othersAt_3 : decode b_Tn_othersAt 3 = .ok (.istore_n 3, 1) := by decide +kernel
theorem d_Tn_othersAt_4 : decode b_Tn_othersAt 4 = .ok (.iload_n 3, 1) := by decide +kernel
theorem d_Tn_othersAt_5 : decode b_Tn_othersAt 5 = .ok (.aload_n 0, 1) := by decide +kernel
theorem d_Tn_othersAt_6 : decode b_Tn_othersAt 6 = .ok (.getfield 18, 3) := by decide +kernel
theorem d_Tn_othersAt_9 : decode b_Tn_othersAt 9 = .ok (.if_icmp .ge 30, 3) := by decide +kernel
theorem d_Tn_othersAt_12 : decode b_Tn_othersAt 12 = .ok (.iload_n 3, 1) := by decide +kernel
theorem d_Tn_othersAt_13 : decode b_Tn_othersAt 13 = .ok (.iload_n 1, 1) := by decide +kernel
theorem d_Tn_othersAt_14 : decode b_Tn_othersAt 14 = .ok (.if_icmp .eq 19, 3) := by decide +kernel
theorem d_Tn_othersAt_17 : decode b_Tn_othersAt 17 = .ok (.aload_n 0, 1) := by decide +kernel
theorem d_Tn_othersAt_18 : decode b_Tn_othersAt 18 = .ok (.iload_n 3, 1) := by decide +kernel
theorem d_Tn_othersAt_19 : decode b_Tn_othersAt 19 = .ok (.invokevirtual 88, 3) := by decide +kernel
theorem d_Tn_othersAt_22 : decode b_Tn_othersAt 22 = .ok (.aload_n 0, 1) := by decide +kernel
theorem d_Tn_othersAt_23 : decode b_Tn_othersAt 23 = .ok (.iload_n 1, 1) := by decide +kernel
theorem d_Tn_othersAt_24 : decode b_Tn_othersAt 24 = .ok (.invokevirtual 88, 3) := by decide +kernel
theorem d_Tn_othersAt_27 : decode b_Tn_othersAt 27 = .ok (.if_icmp .ne 6, 3) := by decide +kernel
theorem d_Tn_othersAt_30 : decode b_Tn_othersAt 30 = .ok (.iinc 2 1, 3) := by decide +kernel
theorem d_Tn_othersAt_33 : decode b_Tn_othersAt 33 = .ok (.iinc 3 1, 3) := by decide +kernel
theorem d_Tn_othersAt_36 : decode b_Tn_othersAt 36 = .ok (.goto (-32), 3) := by decide +kernel
theorem d_Tn_othersAt_39 : decode b_Tn_othersAt 39 = .ok (.iload_n 2, 1) := by decide +kernel
theorem d_Tn_othersAt_40 : decode b_Tn_othersAt 40 = .ok (.ireturn, 1) := by decide +kernel
theorem d_Tn_howManyAtHome_0 : decode b_Tn_howManyAtHome 0 = .ok (.iconst 0, 1) := by decide +kernel
theorem d_Tn_howManyAtHome_1 : decode b_Tn_howManyAtHome 1 = .ok (.istore_n 1, 1) := by decide +kernel
theorem d_Tn_howManyAtHome_2 : decode b_Tn_howManyAtHome 2 = .ok (.iconst 0, 1) := by decide +kernel
theorem d_Tn_howManyAtHome_3 : decode b_Tn_howManyAtHome 3 = .ok (.istore_n 2, 1) := by decide +kernel
theorem d_Tn_howManyAtHome_4 : decode b_Tn_howManyAtHome 4 = .ok (.iload_n 2, 1) := by decide +kernel
theorem d_Tn_howManyAtHome_5 : decode b_Tn_howManyAtHome 5 = .ok (.aload_n 0, 1) := by decide +kernel
theorem d_Tn_howManyAtHome_6 : decode b_Tn_howManyAtHome 6 = .ok (.getfield 18, 3) := by decide +kernel
theorem d_Tn_howManyAtHome_9 : decode b_Tn_howManyAtHome 9 = .ok (.if_icmp .ge 20, 3) := by decide +kernel
theorem d_Tn_howManyAtHome_12 : decode b_Tn_howManyAtHome 12 = .ok (.aload_n 0, 1) := by decide +kernel
theorem d_Tn_howManyAtHome_13 : decode b_Tn_howManyAtHome 13 = .ok (.iload_n 2, 1) := by decide +kernel
theorem d_Tn_howManyAtHome_14 : decode b_Tn_howManyAtHome 14 = .ok (.invokevirtual 88, 3) := by decide +kernel
theorem d_Tn_howManyAtHome_17 : decode b_Tn_howManyAtHome 17 = .ok (.ifCond .ne 6, 3) := by decide +kernel
theorem d_Tn_howManyAtHome_20 : decode b_Tn_howManyAtHome 20 = .ok (.iinc 1 1, 3) := by decide +kernel
theorem d_Tn_howManyAtHome_23 : decode b_Tn_howManyAtHome 23 = .ok (.iinc 2 1, 3) := by decide +kernel
theorem d_Tn_howManyAtHome_26 : decode b_Tn_howManyAtHome 26 = .ok (.goto (-22), 3) := by decide +kernel
theorem d_Tn_howManyAtHome_29 : decode b_Tn_howManyAtHome 29 = .ok (.iload_n 1, 1) := by decide +kernel
theorem d_Tn_howManyAtHome_30 : decode b_Tn_howManyAtHome 30 = .ok (.ireturn, 1) := by decide +kernel
theorem d_Tn_howManyAre_0 : decode b_Tn_howManyAre 0 = .ok (.iconst 0, 1) := by decide +kernel
theorem d_Tn_howManyAre_1 : decode b_Tn_howManyAre 1 = .ok (.istore_n 2, 1) := by decide +kernel
theorem d_Tn_howManyAre_2 : decode b_Tn_howManyAre 2 = .ok (.iconst 0, 1) := by decide +kernel
theorem d_Tn_howManyAre_3 : decode b_Tn_howManyAre 3 = .ok (.istore_n 3, 1) := by decide +kernel
theorem d_Tn_howManyAre_4 : decode b_Tn_howManyAre 4 = .ok (.iload_n 3, 1) := by decide +kernel
theorem d_Tn_howManyAre_5 : decode b_Tn_howManyAre 5 = .ok (.aload_n 0, 1) := by decide +kernel
theorem d_Tn_howManyAre_6 : decode b_Tn_howManyAre 6 = .ok (.getfield 18, 3) := by decide +kernel
theorem d_Tn_howManyAre_9 : decode b_Tn_howManyAre 9 = .ok (.if_icmp .ge 25, 3) := by decide +kernel
theorem d_Tn_howManyAre_12 : decode b_Tn_howManyAre 12 = .ok (.aload_n 0, 1) := by decide +kernel
theorem d_Tn_howManyAre_13 : decode b_Tn_howManyAre 13 = .ok (.getfield 11, 3) := by decide +kernel
theorem d_Tn_howManyAre_16 : decode b_Tn_howManyAre 16 = .ok (.iload_n 3, 1) := by decide +kernel
theorem d_Tn_howManyAre_17 : decode b_Tn_howManyAre 17 = .ok (.iaload, 1) := by decide +kernel
theorem d_Tn_howManyAre_18 : decode b_Tn_howManyAre 18 = .ok (.iload_n 1, 1) := by decide +kernel
theorem d_Tn_howManyAre_19 : decode b_Tn_howManyAre 19 = .ok (.invokestatic 92, 3) := by decide +kernel
theorem d_Tn_howManyAre_22 : decode b_Tn_howManyAre 22 = .ok (.ifCond .eq 6, 3) := by decide +kernel
theorem d_Tn_howManyAre_25 : decode b_Tn_howManyAre 25 = .ok (.iinc 2 1, 3) := by decide +kernel
theorem d_Tn_howManyAre_28 : decode b_Tn_howManyAre 28 = .ok (.iinc 3 1, 3) := by decide +kernel
theorem d_Tn_howManyAre_31 : decode b_Tn_howManyAre 31 = .ok (.goto (-27), 3) := by decide +kernel
theorem d_Tn_howManyAre_34 : decode b_Tn_howManyAre 34 = .ok (.iload_n 2, 1) := by decide +kernel
theorem d_Tn_howManyAre_35 : decode b_Tn_howManyAre 35 = .ok (.ireturn, 1) := by decide +kernel
theorem d_Tr_init_0 : decode b_Tr_init 0 = .ok (.aload_n 0, 1) := by decide +kernel
theorem d_Tr_init_1 : decode b_Tr_init 1 = .ok (.invokespecial 1, 3) := by decide +kernel
theorem d_Tr_init_4 : decode b_Tr_init 4 = .ok (.aload_n 0, 1) := by decide +kernel
theorem d_Tr_init_5 : decode b_Tr_init 5 = .ok (.new 7, 3) := by decide +kernel
theorem d_Tr_init_8 : decode b_Tr_init 8 = .ok (.dup, 1) := by decide +kernel
theorem d_Tr_init_9 : decode b_Tr_init 9 = .ok (.invokespecial 9, 3) := by decide +kernel
theorem d_Tr_init_12 : decode b_Tr_init 12 = .ok (.putfield 10, 3) := by decide +kernel
theorem d_Tr_init_15 : decode b_Tr_init 15 = .ok (.aload_n 0, 1) := by decide +kernel
theorem d_Tr_init_16 : decode b_Tr_init 16 = .ok (.new 7, 3) := by decide +kernel
theorem d_Tr_init_19 : decode b_Tr_init 19 = .ok (.dup, 1) := by decide +kernel
theorem d_Tr_init_20 : decode b_Tr_init 20 = .ok (.invokespecial 9, 3) := by decide +kernel
theorem d_Tr_init_23 : decode b_Tr_init 23 = .ok (.putfield 16, 3) := by decide +kernel
theorem d_Tr_init_26 : decode b_Tr_init 26 = .ok (.aload_n 0, 1) := by decide +kernel
theorem d_Tr_init_27 : decode b_Tr_init 27 = .ok (.new 7, 3) := by decide +kernel
theorem d_Tr_init_30 : decode b_Tr_init 30 = .ok (.dup, 1) := by decide +kernel
theorem d_Tr_init_31 : decode b_Tr_init 31 = .ok (.invokespecial 9, 3) := by decide +kernel
theorem d_Tr_init_34 : decode b_Tr_init 34 = .ok (.putfield 19, 3) := by decide +kernel
theorem d_Tr_init_37 : decode b_Tr_init 37 = .ok (.aload_n 0, 1) := by decide +kernel
theorem d_Tr_init_38 : decode b_Tr_init 38 = .ok (.new 7, 3) := by decide +kernel
theorem d_Tr_init_41 : decode b_Tr_init 41 = .ok (.dup, 1) := by decide +kernel
theorem d_Tr_init_42 : decode b_Tr_init 42 = .ok (.invokespecial 9, 3) := by decide +kernel
theorem d_Tr_init_45 : decode b_Tr_init 45 = .ok (.putfield 22, 3) := by decide +kernel
theorem d_Tr_init_48 : decode b_Tr_init 48 = .ok (.return_, 1) := by decide +kernel
theorem d_Tr_width_0 : decode b_Tr_width 0 = .ok (.aload_n 0, 1) := by decide +kernel
theorem d_Tr_width_1 : decode b_Tr_width 1 = .ok (.getfield 10, 3) := by decide +kernel
theorem d_Tr_width_4 : decode b_Tr_width 4 = .ok (.iload_n 1, 1) := by decide +kernel
theorem d_Tr_width_5 : decode b_Tr_width 5 = .ok (.iload_n 2, 1) := by decide +kernel
theorem d_Tr_width_6 : decode b_Tr_width 6 = .ok (.invokevirtual 25, 3) := by decide +kernel
theorem d_Tr_width_9 : decode b_Tr_width 9 = .ok (.aload_n 0, 1) := by decide +kernel
theorem d_Tr_width_10 : decode b_Tr_width 10 = .ok (.getfield 16, 3) := by decide +kernel
theorem d_Tr_width_13 : decode b_Tr_width 13 = .ok (.iload_n 1, 1) := by decide +kernel
theorem d_Tr_width_14 : decode b_Tr_width 14 = .ok (.iload_n 3, 1) := by decide +kernel
theorem d_Tr_width_15 : decode b_Tr_width 15 = .ok (.invokevirtual 25, 3) := by decide +kernel
theorem d_Tr_width_18 : decode b_Tr_width 18 = .ok (.aload_n 0, 1) := by decide +kernel
theorem d_Tr_width_19 : decode b_Tr_width 19 = .ok (.getfield 19, 3) := by decide +kernel
theorem d_Tr_width_22 : decode b_Tr_width 22 = .ok (.iload_n 2, 1) := by decide +kernel
theorem d_Tr_width_23 : decode b_Tr_width 23 = .ok (.iload_n 3, 1) := by decide +kernel
theorem d_Tr_width_24 : decode b_Tr_width 24 = .ok (.invokevirtual 25, 3) := by decide +kernel
theorem d_Tr_width_27 : decode b_Tr_width 27 = .ok (.iconst 0, 1) := by decide +kernel
theorem d_Tr_width_28 : decode b_Tr_width 28 = .ok (.istore 4, 2) := by decide +kernel
theorem d_Tr_width_30 : decode b_Tr_width 30 = .ok (.iconst 0, 1) := by decide +kernel
theorem d_Tr_width_31 : decode b_Tr_width 31 = .ok (.istore 5, 2) := by decide +kernel
theorem d_Tr_width_33 : decode b_Tr_width 33 = .ok (.iload 5, 2) := by decide +kernel
theorem d_Tr_width_35 : decode b_Tr_width 35 = .ok (.aload_n 0, 1) := by decide +kernel
theorem d_Tr_width_36 : decode b_Tr_width 36 = .ok (.getfield 10, 3) := by decide +kernel
theorem d_Tr_width_39 : decode b_Tr_width 39 = .ok (.getfield 29, 3) := by decide +kernel
theorem d_Tr_width_42 : decode b_Tr_width 42 = .ok (.if_icmp .gt 31, 3) := by decide +kernel
theorem d_Tr_width_45 : decode b_Tr_width 45 = .ok (.iload 4, 2) := by decide +kernel
theorem d_Tr_width_47 : decode b_Tr_width 47 = .ok (.aload_n 0, 1) := by decide +kernel
theorem d_Tr_width_48 : decode b_Tr_width 48 = .ok (.iload 5, 2) := by decide +kernel
theorem d_Tr_width_50 : decode b_Tr_width 50 = .ok (.invokevirtual 33, 3) := by decide +kernel
theorem d_Tr_width_53 : decode b_Tr_width 53 = .ok (.aload_n 0, 1) := by decide +kernel
theorem d_Tr_width_54 : decode b_Tr_width 54 = .ok (.iload 5, 2) := by decide +kernel
theorem d_Tr_width_56 : decode b_Tr_width 56 = .ok (.invokevirtual 37, 3) := by decide +kernel
theorem d_Tr_width_59 : decode b_Tr_width 59 = .ok (.invokestatic 40, 3) := by decide +kernel
theorem d_Tr_width_62 : decode b_Tr_width 62 = .ok (.invokestatic 46, 3) := by decide +kernel
theorem d_Tr_width_65 : decode b_Tr_width 65 = .ok (.istore 4, 2) := by decide +kernel
theorem d_Tr_width_67 : decode b_Tr_width 67 = .ok (.iinc 5 1, 3) := by decide +kernel
theorem d_Tr_width_70 : decode b_Tr_width 70 = .ok (.goto (-37), 3) := by decide +kernel
theorem d_Tr_width_73 : decode b_Tr_width 73 = .ok (.iload 4, 2) := by decide +kernel
theorem d_Tr_width_75 : decode b_Tr_width 75 = .ok (.ireturn, 1) := by decide +kernel
theorem d_Tr_nearestFromFirst_0 : decode b_Tr_nearestFromFirst 0 = .ok (.aload_n 0, 1) := by decide +kernel
theorem d_Tr_nearestFromFirst_1 : decode b_Tr_nearestFromFirst 1 = .ok (.getfield 22, 3) := by decide +kernel
theorem d_Tr_nearestFromFirst_4 : decode b_Tr_nearestFromFirst 4 = .ok (.invokevirtual 49, 3) := by decide +kernel
theorem d_Tr_nearestFromFirst_7 : decode b_Tr_nearestFromFirst 7 = .ok (.iload_n 1, 1) := by decide +kernel
theorem d_Tr_nearestFromFirst_8 : decode b_Tr_nearestFromFirst 8 = .ok (.iconst 1, 1) := by decide +kernel
theorem d_Tr_nearestFromFirst_9 : decode b_Tr_nearestFromFirst 9 = .ok (.isub, 1) := by decide +kernel
theorem d_Tr_nearestFromFirst_10 : decode b_Tr_nearestFromFirst 10 = .ok (.istore_n 2, 1) := by decide +kernel
theorem d_Tr_nearestFromFirst_11 : decode b_Tr_nearestFromFirst 11 = .ok (.iload_n 2, 1) := by decide +kernel
theorem d_Tr_nearestFromFirst_12 : decode b_Tr_nearestFromFirst 12 = .ok (.ifCond .lt 24, 3) := by decide +kernel
theorem d_Tr_nearestFromFirst_15 : decode b_Tr_nearestFromFirst 15 = .ok (.aload_n 0, 1) := by decide +kernel
theorem d_Tr_nearestFromFirst_16 : decode b_Tr_nearestFromFirst 16 = .ok (.getfield 22, 3) := by decide +kernel
theorem d_Tr_nearestFromFirst_19 : decode b_Tr_nearestFromFirst 19 = .ok (.aload_n 0, 1) := by decide +kernel
theorem d_Tr_nearestFromFirst_20 : decode b_Tr_nearestFromFirst 20 = .ok (.getfield 10, 3) := by decide +kernel
theorem d_Tr_nearestFromFirst_23 : decode b_Tr_nearestFromFirst 23 = .ok (.iload_n 2, 1) := by decide +kernel
theorem d_Tr_nearestFromFirst_24 : decode b_Tr_nearestFromFirst 24 = .ok (.invokevirtual 52, 3) := by decide +kernel
theorem d_Tr_nearestFromFirst_27 : decode b_Tr_nearestFromFirst 27 = .ok (.invokevirtual 55, 3) := by decide +kernel
theorem d_Tr_nearestFromFirst_30 : decode b_Tr_nearestFromFirst 30 = .ok (.iinc 2 (-1), 3) := by decide +kernel
theorem d_Tr_nearestFromFirst_33 : decode b_Tr_nearestFromFirst 33 = .ok (.goto (-22), 3) := by decide +kernel
theorem d_Tr_nearestFromFirst_36 : decode b_Tr_nearestFromFirst 36 = .ok (.aload_n 0, 1) := by decide +kernel
theorem d_Tr_nearestFromFirst_37 : decode b_Tr_nearestFromFirst 37 = .ok (.aload_n 0, 1) := by decide +kernel
theorem d_Tr_nearestFromFirst_38 : decode b_Tr_nearestFromFirst 38 = .ok (.getfield 16, 3) := by decide +kernel
theorem d_Tr_nearestFromFirst_41 : decode b_Tr_nearestFromFirst 41 = .ok (.invokevirtual 59, 3) := by decide +kernel
theorem d_Tr_nearestFromFirst_44 : decode b_Tr_nearestFromFirst 44 = .ok (.ireturn, 1) := by decide +kernel
theorem d_Tr_nearestFromSecond_0 : decode b_Tr_nearestFromSecond 0 = .ok (.aload_n 0, 1) := by decide +kernel
theorem d_Tr_nearestFromSecond_1 : decode b_Tr_nearestFromSecond 1 = .ok (.getfield 22, 3) := by decide +kernel
theorem d_Tr_nearestFromSecond_4 : decode b_Tr_nearestFromSecond 4 = .ok (.invokevirtual 49, 3) := by decide +kernel
theorem d_Tr_nearestFromSecond_7 : decode b_Tr_nearestFromSecond 7 = .ok (.iload_n 1, 1) := by decide +kernel
theorem d_Tr_nearestFromSecond_8 : decode b_Tr_nearestFromSecond 8 = .ok (.istore_n 2, 1) := by decide +kernel
theorem d_Tr_nearestFromSecond_9 : decode b_Tr_nearestFromSecond 9 = .ok (.iload_n 2, 1) := by decide +kernel
theorem d_Tr_nearestFromSecond_10 : decode b_Tr_nearestFromSecond 10 = .ok (.aload_n 0, 1) := by decide +kernel
theorem d_Tr_nearestFromSecond_11 : decode b_Tr_nearestFromSecond 11 = .ok (.getfield 10, 3) := by decide +kernel
theorem d_Tr_nearestFromSecond_14 : decode b_Tr_nearestFromSecond 14 = .ok (.getfield 29, 3) := by decide +kernel
theorem d_Tr_nearestFromSecond_17 : decode b_Tr_nearestFromSecond 17 = .ok (.if_icmp .ge 24, 3) := by decide +kernel
theorem d_Tr_nearestFromSecond_20 : decode b_Tr_nearestFromSecond 20 = .ok (.aload_n 0, 1) := by decide +kernel
theorem d_Tr_nearestFromSecond_21 : decode b_Tr_nearestFromSecond 21 = .ok (.getfield 22, 3) := by decide +kernel
theorem d_Tr_nearestFromSecond_24 : decode b_Tr_nearestFromSecond 24 = .ok (.aload_n 0, 1) := by decide +kernel
theorem d_Tr_nearestFromSecond_25 : decode b_Tr_nearestFromSecond 25 = .ok (.getfield 10, 3) := by decide +kernel
theorem d_Tr_nearestFromSecond_28 : decode b_Tr_nearestFromSecond 28 = .ok (.iload_n 2, 1) := by decide +kernel
theorem d_Tr_nearestFromSecond_29 : decode b_Tr_nearestFromSecond 29 = .ok (.invokevirtual 52, 3) := by decide +kernel
theorem d_Tr_nearestFromSecond_32 : decode b_Tr_nearestFromSecond 32 = .ok (.invokevirtual 55, 3) := by decide +kernel
theorem d_Tr_nearestFromSecond_35 : decode b_Tr_nearestFromSecond 35 = .ok (.iinc 2 1, 3) := by decide +kernel
theorem d_Tr_nearestFromSecond_38 : decode b_Tr_nearestFromSecond 38 = .ok (.goto (-29), 3) := by decide +kernel
theorem d_Tr_nearestFromSecond_41 : decode b_Tr_nearestFromSecond 41 = .ok (.aload_n 0, 1) := by decide +kernel
theorem d_Tr_nearestFromSecond_42 : decode b_Tr_nearestFromSecond 42 = .ok (.aload_n 0, 1) := by decide +kernel
theorem d_Tr_nearestFromSecond_43 : decode b_Tr_nearestFromSecond 43 = .ok (.getfield 19, 3) := by decide +kernel
theorem d_Tr_nearestFromSecond_46 : decode b_Tr_nearestFromSecond 46 = .ok (.invokevirtual 59, 3) := by decide +kernel
theorem d_Tr_nearestFromSecond_49 : decode b_Tr_nearestFromSecond 49 = .ok (.ireturn, 1) := by decide +kernel
theorem d_Tr_nearestAlong_0 : decode b_Tr_nearestAlong 0 = .ok (.aload_n 0, 1) := by decide +kernel
theorem d_Tr_nearestAlong_1 : decode b_Tr_nearestAlong 1 = .ok (.getfield 22, 3) := by decide +kernel
theorem d_Tr_nearestAlong_4 : decode b_Tr_nearestAlong 4 = .ok (.getfield 29, 3) := by decide +kernel
theorem d_Tr_nearestAlong_7 : decode b_Tr_nearestAlong 7 = .ok (.istore_n 2, 1) := by decide +kernel
theorem d_Tr_nearestAlong_8 : decode b_Tr_nearestAlong 8 = .ok (.iconst 0, 1) := by decide +kernel
theorem d_Tr_nearestAlong_9 : decode b_Tr_nearestAlong 9 = .ok (.istore_n 3, 1) := by decide +kernel
theorem d_Tr_nearestAlong_10 : decode b_Tr_nearestAlong 10 = .ok (.iload_n 3, 1) := by decide +kernel
theorem d_Tr_nearestAlong_11 : decode b_Tr_nearestAlong 11 = .ok (.aload_n 1, 1) := by decide +kernel
theorem d_Tr_nearestAlong_12 : decode b_Tr_nearestAlong 12 = .ok (.getfield 29, 3) := by decide +kernel
theorem d_Tr_nearestAlong_15 : decode b_Tr_nearestAlong 15 = .ok (.if_icmp .ge 33, 3) := by decide +kernel
theorem d_Tr_nearestAlong_18 : decode b_Tr_nearestAlong 18 = .ok (.aload_n 0, 1) := by decide +kernel
theorem d_Tr_nearestAlong_19 : decode b_Tr_nearestAlong 19 = .ok (.getfield 22, 3) := by decide +kernel
theorem d_Tr_nearestAlong_22 : decode b_Tr_nearestAlong 22 = .ok (.aload_n 1, 1) := by decide +kernel
theorem d_Tr_nearestAlong_23 : decode b_Tr_nearestAlong 23 = .ok (.iload_n 3, 1) := by decide +kernel
theorem d_Tr_nearestAlong_24 : decode b_Tr_nearestAlong 24 = .ok (.invokevirtual 52, 3) := by decide +kernel
theorem d_Tr_nearestAlong_27 : decode b_Tr_nearestAlong 27 = .ok (.invokevirtual 55, 3) := by decide +kernel
theorem d_Tr_nearestAlong_30 : decode b_Tr_nearestAlong 30 = .ok (.iload_n 2, 1) := by decide +kernel
theorem d_Tr_nearestAlong_31 : decode b_Tr_nearestAlong 31 = .ok (.aload_n 0, 1) := by decide +kernel
theorem d_Tr_nearestAlong_32 : decode b_Tr_nearestAlong 32 = .ok (.getfield 22, 3) := by decide +kernel
theorem d_Tr_nearestAlong_35 : decode b_Tr_nearestAlong 35 = .ok (.getfield 29, 3) := by decide +kernel
theorem d_Tr_nearestAlong_38 : decode b_Tr_nearestAlong 38 = .ok (.invokestatic 40, 3) := by decide +kernel
theorem d_Tr_nearestAlong_41 : decode b_Tr_nearestAlong 41 = .ok (.istore_n 2, 1) := by decide +kernel
theorem d_Tr_nearestAlong_42 : decode b_Tr_nearestAlong 42 = .ok (.iinc 3 1, 3) := by decide +kernel
theorem d_Tr_nearestAlong_45 : decode b_Tr_nearestAlong 45 = .ok (.goto (-35), 3) := by decide +kernel
theorem d_Tr_nearestAlong_48 : decode b_Tr_nearestAlong 48 = .ok (.iload_n 2, 1) := by decide +kernel
theorem d_Tr_nearestAlong_49 : decode b_Tr_nearestAlong 49 = .ok (.ireturn, 1) := by decide +kernel
theorem d_Wk_init_0 : decode b_Wk_init 0 = .ok (.aload_n 0, 1) := by decide +kernel
theorem d_Wk_init_1 : decode b_Wk_init 1 = .ok (.invokespecial 3, 3) := by decide +kernel
theorem d_Wk_init_4 : decode b_Wk_init 4 = .ok (.aload_n 0, 1) := by decide +kernel
theorem d_Wk_init_5 : decode b_Wk_init 5 = .ok (.iconst 0, 1) := by decide +kernel
theorem d_Wk_init_6 : decode b_Wk_init 6 = .ok (.putfield 9, 3) := by decide +kernel
theorem d_Wk_init_9 : decode b_Wk_init 9 = .ok (.aload_n 0, 1) := by decide +kernel
theorem d_Wk_init_10 : decode b_Wk_init 10 = .ok (.iconst 0, 1) := by decide +kernel
theorem d_Wk_init_11 : decode b_Wk_init 11 = .ok (.putfield 15, 3) := by decide +kernel
theorem d_Wk_init_14 : decode b_Wk_init 14 = .ok (.aload_n 0, 1) := by decide +kernel
theorem d_Wk_init_15 : decode b_Wk_init 15 = .ok (.iconst 0, 1) := by decide +kernel
theorem d_Wk_init_16 : decode b_Wk_init 16 = .ok (.putfield 18, 3) := by decide +kernel
theorem d_Wk_init_19 : decode b_Wk_init 19 = .ok (.aload_n 0, 1) := by decide +kernel
theorem d_Wk_init_20 : decode b_Wk_init 20 = .ok (.iconst 0, 1) := by decide +kernel
theorem d_Wk_init_21 : decode b_Wk_init 21 = .ok (.putfield 21, 3) := by decide +kernel
theorem d_Wk_init_24 : decode b_Wk_init 24 = .ok (.aload_n 0, 1) := by decide +kernel
theorem d_Wk_init_25 : decode b_Wk_init 25 = .ok (.iconst 0, 1) := by decide +kernel
theorem d_Wk_init_26 : decode b_Wk_init 26 = .ok (.putfield 24, 3) := by decide +kernel
theorem d_Wk_init_29 : decode b_Wk_init 29 = .ok (.return_, 1) := by decide +kernel
theorem d_Wk_is_0 : decode b_Wk_is 0 = .ok (.aload_n 0, 1) := by decide +kernel
theorem d_Wk_is_1 : decode b_Wk_is 1 = .ok (.getfield 9, 3) := by decide +kernel
theorem d_Wk_is_4 : decode b_Wk_is 4 = .ok (.iload_n 1, 1) := by decide +kernel
theorem d_Wk_is_5 : decode b_Wk_is 5 = .ok (.invokestatic 27, 3) := by decide +kernel
theorem d_Wk_is_8 : decode b_Wk_is 8 = .ok (.ireturn, 1) := by decide +kernel
theorem d_Wk_isOf_0 : decode b_Wk_isOf 0 = .ok (.iload_n 0, 1) := by decide +kernel
theorem d_Wk_isOf_1 : decode b_Wk_isOf 1 = .ok (.iload_n 1, 1) := by decide +kernel
theorem d_Wk_isOf_2 : decode b_Wk_isOf 2 = .ok (.if_icmp .eq 27, 3) := by decide +kernel
theorem d_Wk_isOf_5 : decode b_Wk_isOf 5 = .ok (.iload_n 1, 1) := by decide +kernel
theorem d_Wk_isOf_6 : decode b_Wk_isOf 6 = .ok (.ifCond .eq 23, 3) := by decide +kernel
theorem d_Wk_isOf_9 : decode b_Wk_isOf 9 = .ok (.iload_n 0, 1) := by decide +kernel
theorem d_Wk_isOf_10 : decode b_Wk_isOf 10 = .ok (.iconst 4, 1) := by decide +kernel
theorem d_Wk_isOf_11 : decode b_Wk_isOf 11 = .ok (.if_icmp .ne 8, 3) := by decide +kernel
theorem d_Wk_isOf_14 : decode b_Wk_isOf 14 = .ok (.iload_n 1, 1) := by decide +kernel
theorem d_Wk_isOf_15 : decode b_Wk_isOf 15 = .ok (.iconst 1, 1) := by decide +kernel
theorem d_Wk_isOf_16 : decode b_Wk_isOf 16 = .ok (.if_icmp .eq 13, 3) := by decide +kernel
theorem d_Wk_isOf_19 : decode b_Wk_isOf 19 = .ok (.iload_n 0, 1) := by decide +kernel
theorem d_Wk_isOf_20 : decode b_Wk_isOf 20 = .ok (.iconst 5, 1) := by decide +kernel
theorem d_Wk_isOf_21 : decode b_Wk_isOf 21 = .ok (.if_icmp .ne 12, 3) := by decide +kernel
theorem d_Wk_isOf_24 : decode b_Wk_isOf 24 = .ok (.iload_n 1, 1) := by decide +kernel
theorem d_Wk_isOf_25 : decode b_Wk_isOf 25 = .ok (.iconst 2, 1) := by decide +kernel
theorem d_Wk_isOf_26 : decode b_Wk_isOf 26 = .ok (.if_icmp .ne 7, 3) := by decide +kernel
theorem d_Wk_isOf_29 : decode b_Wk_isOf 29 = .ok (.iconst 1, 1) := by decide +kernel
theorem d_Wk_isOf_30 : decode b_Wk_isOf 30 = .ok (.goto 4, 3) := by decide +kernel
theorem d_Wk_isOf_33 : decode b_Wk_isOf 33 = .ok (.iconst 0, 1) := by decide +kernel
theorem d_Wk_isOf_34 : decode b_Wk_isOf 34 = .ok (.ireturn, 1) := by decide +kernel
theorem d_Wk_passHour_0 : decode b_Wk_passHour 0 = .ok (.aload_n 0, 1) := by decide +kernel
theorem d_Wk_passHour_1 : decode b_Wk_passHour 1 = .ok (.aload_n 1, 1) := by decide +kernel
theorem d_Wk_passHour_2 : decode b_Wk_passHour 2 = .ok (.invokevirtual 31, 3) := by decide +kernel
theorem d_Wk_passHour_5 : decode b_Wk_passHour 5 = .ok (.aload_n 0, 1) := by decide +kernel
theorem d_Wk_passHour_6 : decode b_Wk_passHour 6 = .ok (.getfield 9, 3) := by decide +kernel
theorem d_Wk_passHour_9 : decode b_Wk_passHour 9 = .ok (.iconst 4, 1) := by decide +kernel
theorem d_Wk_passHour_10 : decode b_Wk_passHour 10 = .ok (.if_icmp .ne 8, 3) := by decide +kernel
theorem d_Wk_passHour_13 : decode b_Wk_passHour 13 = .ok (.aload_n 0, 1) := by decide +kernel
theorem d_Wk_passHour_14 : decode b_Wk_passHour 14 = .ok (.aload_n 1, 1) := by decide +kernel
theorem d_Wk_passHour_15 : decode b_Wk_passHour 15 = .ok (.invokevirtual 31, 3) := by decide +kernel
theorem d_Wk_passHour_18 : decode b_Wk_passHour 18 = .ok (.return_, 1) := by decide +kernel
theorem d_Wk_passStreet_0 : decode b_Wk_passStreet 0 = .ok (.aload_n 1, 1) := by decide +kernel
theorem d_Wk_passStreet_1 : decode b_Wk_passStreet 1 = .ok (.invokevirtual 35, 3) := by decide +kernel
theorem d_Wk_passStreet_4 : decode b_Wk_passStreet 4 = .ok (.aload_n 1, 1) := by decide +kernel
theorem d_Wk_passStreet_5 : decode b_Wk_passStreet 5 = .ok (.aload_n 0, 1) := by decide +kernel
theorem d_Wk_passStreet_6 : decode b_Wk_passStreet 6 = .ok (.getfield 15, 3) := by decide +kernel
theorem d_Wk_passStreet_9 : decode b_Wk_passStreet 9 = .ok (.invokevirtual 40, 3) := by decide +kernel
theorem d_Wk_passStreet_12 : decode b_Wk_passStreet 12 = .ok (.aload_n 0, 1) := by decide +kernel
theorem d_Wk_passStreet_13 : decode b_Wk_passStreet 13 = .ok (.getfield 9, 3) := by decide +kernel
theorem d_Wk_passStreet_16 : decode b_Wk_passStreet 16 = .ok (.iconst 3, 1) := by decide +kernel
theorem d_Wk_passStreet_17 : decode b_Wk_passStreet 17 = .ok (.if_icmp .ne 9, 3) := by decide +kernel
theorem d_Wk_passStreet_20 : decode b_Wk_passStreet 20 = .ok (.aload_n 0, 1) := by decide +kernel
theorem d_Wk_passStreet_21 : decode b_Wk_passStreet 21 = .ok (.aload_n 1, 1) := by decide +kernel
theorem d_Wk_passStreet_22 : decode b_Wk_passStreet 22 = .ok (.invokevirtual 44, 3) := by decide +kernel
theorem d_Wk_passStreet_25 : decode b_Wk_passStreet 25 = .ok (.return_, 1) := by decide +kernel
theorem d_Wk_passStreet_26 : decode b_Wk_passStreet 26 = .ok (.aload_n 1, 1) := by decide +kernel
theorem d_Wk_passStreet_27 : decode b_Wk_passStreet 27 = .ok (.aload_n 0, 1) := by decide +kernel
theorem d_Wk_passStreet_28 : decode b_Wk_passStreet 28 = .ok (.getfield 18, 3) := by decide +kernel
theorem d_Wk_passStreet_31 : decode b_Wk_passStreet 31 = .ok (.invokevirtual 47, 3) := by decide +kernel
theorem d_Wk_passStreet_34 : decode b_Wk_passStreet 34 = .ok (.ifCond .eq 13, 3) := by decide +kernel
theorem d_Wk_passStreet_37 : decode b_Wk_passStreet 37 = .ok (.aload_n 0, 1) := by decide +kernel
theorem d_Wk_passStreet_38 : decode b_Wk_passStreet 38 = .ok (.dup, 1) := by decide +kernel
theorem d_Wk_passStreet_39 : decode b_Wk_passStreet 39 = .ok (.getfield 24, 3) := by decide +kernel
theorem d_Wk_passStreet_42 : decode b_Wk_passStreet 42 = .ok (.iconst 1, 1) := by decide +kernel
theorem d_Wk_passStreet_43 : decode b_Wk_passStreet 43 = .ok (.iadd, 1) := by decide +kernel
theorem d_Wk_passStreet_44 : decode b_Wk_passStreet 44 = .ok (.putfield 24, 3) := by decide +kernel
theorem d_Wk_passStreet_47 : decode b_Wk_passStreet 47 = .ok (.aload_n 0, 1) := by decide +kernel
theorem d_Wk_passStreet_48 : decode b_Wk_passStreet 48 = .ok (.aload_n 1, 1) := by decide +kernel
theorem d_Wk_passStreet_49 : decode b_Wk_passStreet 49 = .ok (.invokevirtual 51, 3) := by decide +kernel
theorem d_Wk_passStreet_52 : decode b_Wk_passStreet 52 = .ok (.putfield 15, 3) := by decide +kernel
theorem d_Wk_passStreet_55 : decode b_Wk_passStreet 55 = .ok (.aload_n 0, 1) := by decide +kernel
theorem d_Wk_passStreet_56 : decode b_Wk_passStreet 56 = .ok (.invokevirtual 55, 3) := by decide +kernel
theorem d_Wk_passStreet_59 : decode b_Wk_passStreet 59 = .ok (.return_, 1) := by decide +kernel
theorem d_Wk_goHome_0 : decode b_Wk_goHome 0 = .ok (.aload_n 1, 1) := by decide +kernel
theorem d_Wk_goHome_1 : decode b_Wk_goHome 1 = .ok (.invokevirtual 58, 3) := by decide +kernel
theorem d_Wk_goHome_4 : decode b_Wk_goHome 4 = .ok (.istore_n 2, 1) := by decide +kernel
theorem d_Wk_goHome_5 : decode b_Wk_goHome 5 = .ok (.iconst 0, 1) := by decide +kernel
theorem d_Wk_goHome_6 : decode b_Wk_goHome 6 = .ok (.istore_n 3, 1) := by decide +kernel
theorem d_Wk_goHome_7 : decode b_Wk_goHome 7 = .ok (.iload_n 3, 1) := by decide +kernel
theorem d_Wk_goHome_8 : decode b_Wk_goHome 8 = .ok (.iconst 5, 1) := by decide +kernel
theorem d_Wk_goHome_9 : decode b_Wk_goHome 9 = .ok (.if_icmp .ge 42, 3) := by decide +kernel
theorem d_Wk_goHome_12 : decode b_Wk_goHome 12 = .ok (.iload_n 2, 1) := by decide +kernel
theorem d_Wk_goHome_13 : decode b_Wk_goHome 13 = .ok (.iload_n 3, 1) := by decide +kernel
theorem d_Wk_goHome_14 : decode b_Wk_goHome 14 = .ok (.ishr, 1) := by decide +kernel
theorem d_Wk_goHome_15 : decode b_Wk_goHome 15 = .ok (.iconst 1, 1) := by decide +kernel
theorem d_Wk_goHome_16 : decode b_Wk_goHome 16 = .ok (.iand, 1) := by decide +kernel
theorem d_Wk_goHome_17 : decode b_Wk_goHome 17 = .ok (.iconst 1, 1) := by decide +kernel
theorem d_Wk_goHome_18 : decode b_Wk_goHome 18 = .ok (.if_icmp .ne 27, 3) := by decide +kernel
theorem d_Wk_goHome_21 : decode b_Wk_goHome 21 = .ok (.aload_n 1, 1) := by decide +kernel
theorem d_Wk_goHome_22 : decode b_Wk_goHome 22 = .ok (.iload_n 3, 1) := by decide +kernel
theorem d_Wk_goHome_23 : decode b_Wk_goHome 23 = .ok (.invokevirtual 61, 3) := by decide +kernel
theorem d_Wk_goHome_26 : decode b_Wk_goHome 26 = .ok (.aload_n 0, 1) := by decide +kernel
theorem d_Wk_goHome_27 : decode b_Wk_goHome 27 = .ok (.aload_n 1, 1) := by decide +kernel
theorem d_Wk_goHome_28 : decode b_Wk_goHome 28 = .ok (.invokevirtual 51, 3) := by decide +kernel
theorem d_Wk_goHome_31 : decode b_Wk_goHome 31 = .ok (.putfield 15, 3) := by decide +kernel
theorem d_Wk_goHome_34 : decode b_Wk_goHome 34 = .ok (.aload_n 0, 1) := by decide +kernel
theorem d_Wk_goHome_35 : decode b_Wk_goHome 35 = .ok (.dup, 1) := by decide +kernel
theorem d_Wk_goHome_36 : decode b_Wk_goHome 36 = .ok (.getfield 24, 3) := by decide +kernel
theorem d_Wk_goHome_39 : decode b_Wk_goHome 39 = .ok (.iconst 1, 1) := by decide +kernel
theorem d_Wk_goHome_40 : decode b_Wk_goHome 40 = .ok (.iadd, 1) := by decide +kernel
theorem d_Wk_goHome_41 : decode b_Wk_goHome 41 = .ok (.putfield 24, 3) := by decide +kernel
theorem d_Wk_goHome_44 : decode b_Wk_goHome 44 = .ok (.return_, 1) := by decide +kernel
theorem d_Wk_goHome_45 : decode b_Wk_goHome 45 = .ok (.iinc 3 1, 3) := by decide +kernel
theorem d_Wk_goHome_48 : decode b_Wk_goHome 48 = .ok (.goto (-41), 3) := by decide +kernel
theorem d_Wk_goHome_51 : decode b_Wk_goHome 51 = .ok (.return_, 1) := by decide +kernel
theorem d_Wk_turn_0 : decode b_Wk_turn 0 = .ok (.aload_n 0, 1) := by decide +kernel
theorem d_Wk_turn_1 : decode b_Wk_turn 1 = .ok (.iconst 1, 1) := by decide +kernel
theorem d_Wk_turn_2 : decode b_Wk_turn 2 = .ok (.invokevirtual 64, 3) := by decide +kernel
theorem d_Wk_turn_5 : decode b_Wk_turn 5 = .ok (.ifCond .eq 11, 3) := by decide +kernel
theorem d_Wk_turn_8 : decode b_Wk_turn 8 = .ok (.aload_n 0, 1) := by decide +kernel
theorem d_Wk_turn_9 : decode b_Wk_turn 9 = .ok (.iconst 2, 1) := by decide +kernel
theorem d_Wk_turn_10 : decode b_Wk_turn 10 = .ok (.invokevirtual 67, 3) := by decide +kernel
theorem d_Wk_turn_13 : decode b_Wk_turn 13 = .ok (.goto 39, 3) := by decide +kernel
theorem d_Wk_turn_16 : decode b_Wk_turn 16 = .ok (.aload_n 0, 1) := by decide +kernel
theorem d_Wk_turn_17 : decode b_Wk_turn 17 = .ok (.getfield 9, 3) := by decide +kernel
theorem d_Wk_turn_20 : decode b_Wk_turn 20 = .ok (.iconst 2, 1) := by decide +kernel
theorem d_Wk_turn_21 : decode b_Wk_turn 21 = .ok (.if_icmp .ne 11, 3) := by decide +kernel
theorem d_Wk_turn_24 : decode b_Wk_turn 24 = .ok (.aload_n 0, 1) := by decide +kernel
theorem d_Wk_turn_25 : decode b_Wk_turn 25 = .ok (.iconst 1, 1) := by decide +kernel
theorem d_Wk_turn_26 : decode b_Wk_turn 26 = .ok (.invokevirtual 67, 3) := by decide +kernel
theorem d_Wk_turn_29 : decode b_Wk_turn 29 = .ok (.goto 23, 3) := by decide +kernel
theorem d_Wk_turn_32 : decode b_Wk_turn 32 = .ok (.aload_n 0, 1) := by decide +kernel
theorem d_Wk_turn_33 : decode b_Wk_turn 33 = .ok (.getfield 9, 3) := by decide +kernel
theorem d_Wk_turn_36 : decode b_Wk_turn 36 = .ok (.iconst 5, 1) := by decide +kernel
theorem d_Wk_turn_37 : decode b_Wk_turn 37 = .ok (.if_icmp .ne 15, 3) := by decide +kernel
theorem d_Wk_turn_40 : decode b_Wk_turn 40 = .ok (.aload_n 0, 1) := by decide +kernel
theorem d_Wk_turn_41 : decode b_Wk_turn 41 = .ok (.aload_n 0, 1) := by decide +kernel
theorem d_Wk_turn_42 : decode b_Wk_turn 42 = .ok (.getfield 18, 3) := by decide +kernel
theorem d_Wk_turn_45 : decode b_Wk_turn 45 = .ok (.iconst 1, 1) := by decide +kernel
theorem d_Wk_turn_46 : decode b_Wk_turn 46 = .ok (.iadd, 1) := by decide +kernel
theorem d_Wk_turn_47 : decode b_Wk_turn 47 = .ok (.iconst 5, 1) := by decide +kernel
theorem d_Wk_turn_48 : decode b_Wk_turn 48 = .ok (.irem, 1) := by decide +kernel
theorem d_Wk_turn_49 : decode b_Wk_turn 49 = .ok (.putfield 18, 3) := by decide +kernel
theorem d_Wk_turn_52 : decode b_Wk_turn 52 = .ok (.return_, 1) := by decide +kernel
theorem d_Wk_turnByTurns_0 : decode b_Wk_turnByTurns 0 = .ok (.aload_n 0, 1) := by decide +kernel
theorem d_Wk_turnByTurns_1 : decode b_Wk_turnByTurns 1 = .ok (.getfield 21, 3) := by decide +kernel
theorem d_Wk_turnByTurns_4 : decode b_Wk_turnByTurns 4 = .ok (.ifCond .ne 7, 3) := by decide +kernel
theorem d_Wk_turnByTurns_7 : decode b_Wk_turnByTurns 7 = .ok (.iload_n 1, 1) := by decide +kernel
theorem d_Wk_turnByTurns_8 : decode b_Wk_turnByTurns 8 = .ok (.goto 6, 3) := by decide +kernel
theorem d_Wk_turnByTurns_11 : decode b_Wk_turnByTurns 11 = .ok (.iconst 5, 1) := by decide +kernel
theorem d_Wk_turnByTurns_12 : decode b_Wk_turnByTurns 12 = .ok (.iload_n 1, 1) := by decide +kernel
theorem d_Wk_turnByTurns_13 : decode b_Wk_turnByTurns 13 = .ok (.isub, 1) := by decide +kernel
theorem d_Wk_turnByTurns_14 : decode b_Wk_turnByTurns 14 = .ok (.istore_n 2, 1) := by decide +kernel
theorem d_Wk_turnByTurns_15 : decode b_Wk_turnByTurns 15 = .ok (.aload_n 0, 1) := by decide +kernel
theorem d_Wk_turnByTurns_16 : decode b_Wk_turnByTurns 16 = .ok (.aload_n 0, 1) := by decide +kernel
theorem d_Wk_turnByTurns_17 : decode b_Wk_turnByTurns 17 = .ok (.getfield 18, 3) := by decide +kernel
theorem d_Wk_turnByTurns_20 : decode b_Wk_turnByTurns 20 = .ok (.iload_n 2, 1) := by decide +kernel
theorem d_Wk_turnByTurns_21 : decode b_Wk_turnByTurns 21 = .ok (.iadd, 1) := by decide +kernel
theorem d_Wk_turnByTurns_22 : decode b_Wk_turnByTurns 22 = .ok (.iconst 5, 1) := by decide +kernel
theorem d_Wk_turnByTurns_23 : decode b_Wk_turnByTurns 23 = .ok (.irem, 1) := by decide +kernel
theorem d_Wk_turnByTurns_24 : decode b_Wk_turnByTurns 24 = .ok (.putfield 18, 3) := by decide +kernel
theorem d_Wk_turnByTurns_27 : decode b_Wk_turnByTurns 27 = .ok (.aload_n 0, 1) := by decide +kernel
theorem d_Wk_turnByTurns_28 : decode b_Wk_turnByTurns 28 = .ok (.iconst 1, 1) := by decide +kernel
theorem d_Wk_turnByTurns_29 : decode b_Wk_turnByTurns 29 = .ok (.aload_n 0, 1) := by decide +kernel
theorem d_Wk_turnByTurns_30 : decode b_Wk_turnByTurns 30 = .ok (.getfield 21, 3) := by decide +kernel
theorem d_Wk_turnByTurns_33 : decode b_Wk_turnByTurns 33 = .ok (.isub, 1) := by decide +kernel
theorem d_Wk_turnByTurns_34 : decode b_Wk_turnByTurns 34 = .ok (.putfield 21, 3) := by decide +kernel
theorem d_Wk_turnByTurns_37 : decode b_Wk_turnByTurns 37 = .ok (.return_, 1) := by decide +kernel
theorem d_Wd_init_0 : decode b_Wd_init 0 = .ok (.aload_n 0, 1) := by decide +kernel
theorem d_Wd_init_1 : decode b_Wd_init 1 = .ok (.invokespecial 3, 3) := by decide +kernel
theorem d_Wd_init_4 : decode b_Wd_init 4 = .ok (.aload_n 0, 1) := by decide +kernel
theorem d_Wd_init_5 : decode b_Wd_init 5 = .ok (.bipush 64, 2) := by decide +kernel
theorem d_Wd_init_7 : decode b_Wd_init 7 = .ok (.newarray .int, 2) := by decide +kernel
theorem d_Wd_init_9 : decode b_Wd_init 9 = .ok (.putfield 11, 3) := by decide +kernel
theorem d_Wd_init_12 : decode b_Wd_init 12 = .ok (.aload_n 0, 1) := by decide +kernel
theorem d_Wd_init_13 : decode b_Wd_init 13 = .ok (.iconst 0, 1) := by decide +kernel
theorem d_Wd_init_14 : decode b_Wd_init 14 = .ok (.putfield 15, 3) := by decide +kernel
theorem d_Wd_init_17 : decode b_Wd_init 17 = .ok (.return_, 1) := by decide +kernel
theorem d_Wd_areNeighbours_0 : decode b_Wd_areNeighbours 0 = .ok (.iload_n 0, 1) := by decide +kernel
theorem d_Wd_areNeighbours_1 : decode b_Wd_areNeighbours 1 = .ok (.iload_n 1, 1) := by decide +kernel
theorem d_Wd_areNeighbours_2 : decode b_Wd_areNeighbours 2 = .ok (.if_icmp .le 9, 3) := by decide +kernel
theorem d_Wd_areNeighbours_5 : decode b_Wd_areNeighbours 5 = .ok (.iload_n 0, 1) := by decide +kernel
theorem d_Wd_areNeighbours_6 : decode b_Wd_areNeighbours 6 = .ok (.iload_n 1, 1) := by decide +kernel
theorem d_Wd_areNeighbours_7 : decode b_Wd_areNeighbours 7 = .ok (.isub, 1) := by decide +kernel
theorem d_Wd_areNeighbours_8 : decode b_Wd_areNeighbours 8 = .ok (.goto 6, 3) := by decide +kernel
theorem d_Wd_areNeighbours_11 : decode b_Wd_areNeighbours 11 = .ok (.iload_n 1, 1) := by decide +kernel
theorem d_Wd_areNeighbours_12 : decode b_Wd_areNeighbours 12 = .ok (.iload_n 0, 1) := by decide +kernel
theorem d_Wd_areNeighbours_13 : decode b_Wd_areNeighbours 13 = .ok (.isub, 1) := by decide +kernel
theorem d_Wd_areNeighbours_14 : decode b_Wd_areNeighbours 14 = .ok (.istore_n 2, 1) := by decide +kernel
theorem d_Wd_areNeighbours_15 : decode b_Wd_areNeighbours 15 = .ok (.iload_n 2, 1) := by decide +kernel
theorem d_Wd_areNeighbours_16 : decode b_Wd_areNeighbours 16 = .ok (.iconst 1, 1) := by decide +kernel
theorem d_Wd_areNeighbours_17 : decode b_Wd_areNeighbours 17 = .ok (.if_icmp .eq 8, 3) := by decide +kernel
theorem d_Wd_areNeighbours_20 : decode b_Wd_areNeighbours 20 = .ok (.iload_n 2, 1) := by decide +kernel
theorem d_Wd_areNeighbours_21 : decode b_Wd_areNeighbours 21 = .ok (.iconst 4, 1) := by decide +kernel
theorem d_Wd_areNeighbours_22 : decode b_Wd_areNeighbours 22 = .ok (.if_icmp .ne 7, 3) := by decide +kernel
theorem d_Wd_areNeighbours_25 : decode b_Wd_areNeighbours 25 = .ok (.iconst 1, 1) := by decide +kernel
theorem d_Wd_areNeighbours_26 : decode b_Wd_areNeighbours 26 = .ok (.goto 4, 3) := by decide +kernel
theorem d_Wd_areNeighbours_29 : decode b_Wd_areNeighbours 29 = .ok (.iconst 0, 1) := by decide +kernel
theorem d_Wd_areNeighbours_30 : decode b_Wd_areNeighbours 30 = .ok (.ireturn, 1) := by decide +kernel
theorem d_Wd_streetAt_0 : decode b_Wd_streetAt 0 = .ok (.iload_n 1, 1) := by decide +kernel
theorem d_Wd_streetAt_1 : decode b_Wd_streetAt 1 = .ok (.ifCond .lt 20, 3) := by decide +kernel
theorem d_Wd_streetAt_4 : decode b_Wd_streetAt 4 = .ok (.iload_n 1, 1) := by decide +kernel
theorem d_Wd_streetAt_5 : decode b_Wd_streetAt 5 = .ok (.aload_n 0, 1) := by decide +kernel
theorem d_Wd_streetAt_6 : decode b_Wd_streetAt 6 = .ok (.getfield 15, 3) := by decide +kernel
theorem d_Wd_streetAt_9 : decode b_Wd_streetAt 9 = .ok (.if_icmp .ge 12, 3) := by decide +kernel
theorem d_Wd_streetAt_12 : decode b_Wd_streetAt 12 = .ok (.aload_n 0, 1) := by decide +kernel
theorem d_Wd_streetAt_13 : decode b_Wd_streetAt 13 = .ok (.getfield 11, 3) := by decide +kernel
theorem d_Wd_streetAt_16 : decode b_Wd_streetAt 16 = .ok (.iload_n 1, 1) := by decide +kernel
theorem d_Wd_streetAt_17 : decode b_Wd_streetAt 17 = .ok (.iaload, 1) := by decide +kernel
theorem d_Wd_streetAt_18 : decode b_Wd_streetAt 18 = .ok (.goto 4, 3) := by decide +kernel
theorem d_Wd_streetAt_21 : decode b_Wd_streetAt 21 = .ok (.iconst 0, 1) := by decide +kernel
theorem d_Wd_streetAt_22 : decode b_Wd_streetAt 22 = .ok (.ireturn, 1) := by decide +kernel
theorem d_Wd_clear_0 : decode b_Wd_clear 0 = .ok (.aload_n 0, 1) := by decide +kernel
theorem d_Wd_clear_1 : decode b_Wd_clear 1 = .ok (.iconst 0, 1) := by decide +kernel
theorem d_Wd_clear_2 : decode b_Wd_clear 2 = .ok (.putfield 15, 3) := by decide +kernel
theorem d_Wd_clear_5 : decode b_Wd_clear 5 = .ok (.return_, 1) := by decide +kernel
theorem d_Wd_becomes_0 : decode b_Wd_becomes 0 = .ok (.aload_n 0, 1) := by decide +kernel
theorem d_Wd_becomes_1 : decode b_Wd_becomes 1 = .ok (.iconst 0, 1) := by decide +kernel
theorem d_Wd_becomes_2 : decode b_Wd_becomes 2 = .ok (.putfield 15, 3) := by decide +kernel
theorem d_Wd_becomes_5 : decode b_Wd_becomes 5 = .ok (.aload_n 0, 1) := by decide +kernel
theorem d_Wd_becomes_6 : decode b_Wd_becomes 6 = .ok (.iload_n 1, 1) := by decide +kernel
theorem d_Wd_becomes_7 : decode b_Wd_becomes 7 = .ok (.invokevirtual 19, 3) := by decide +kernel
theorem d_Wd_becomes_10 : decode b_Wd_becomes 10 = .ok (.return_, 1) := by decide +kernel
theorem d_Wd_becomesWay_0 : decode b_Wd_becomesWay 0 = .ok (.aload_n 0, 1) := by decide +kernel
theorem d_Wd_becomesWay_1 : decode b_Wd_becomesWay 1 = .ok (.iconst 0, 1) := by decide +kernel
theorem d_Wd_becomesWay_2 : decode b_Wd_becomesWay 2 = .ok (.putfield 15, 3) := by decide +kernel
theorem d_Wd_becomesWay_5 : decode b_Wd_becomesWay 5 = .ok (.aload_n 0, 1) := by decide +kernel
theorem d_Wd_becomesWay_6 : decode b_Wd_becomesWay 6 = .ok (.iload_n 1, 1) := by decide +kernel
theorem d_Wd_becomesWay_7 : decode b_Wd_becomesWay 7 = .ok (.invokevirtual 23, 3) := by decide +kernel
theorem d_Wd_becomesWay_10 : decode b_Wd_becomesWay 10 = .ok (.aload_n 0, 1) := by decide +kernel
theorem d_Wd_becomesWay_11 : decode b_Wd_becomesWay 11 = .ok (.iload_n 2, 1) := by decide +kernel
theorem d_Wd_becomesWay_12 : decode b_Wd_becomesWay 12 = .ok (.invokevirtual 19, 3) := by decide +kernel
theorem d_Wd_becomesWay_15 : decode b_Wd_becomesWay 15 = .ok (.return_, 1) := by decide +kernel
theorem d_Wd_goAlong_0 : decode b_Wd_goAlong 0 = .ok (.iconst 1, 1) := by decide +kernel
theorem d_Wd_goAlong_1 : decode b_Wd_goAlong 1 = .ok (.istore_n 2, 1) := by decide +kernel
theorem d_Wd_goAlong_2 : decode b_Wd_goAlong 2 = .ok (.iconst 1, 1) := by decide +kernel
theorem d_Wd_goAlong_3 : decode b_Wd_goAlong 3 = .ok (.istore_n 3, 1) := by decide +kernel
theorem d_Wd_goAlong_4 : decode b_Wd_goAlong 4 = .ok (.iload_n 3, 1) := by decide +kernel
theorem d_Wd_goAlong_5 : decode b_Wd_goAlong 5 = .ok (.bipush 9, 2) := by decide +kernel
theorem d_Wd_goAlong_7 : decode b_Wd_goAlong 7 = .ok (.if_icmp .ge 22, 3) := by decide +kernel
theorem d_Wd_goAlong_10 : decode b_Wd_goAlong 10 = .ok (.iload_n 1, 1) := by decide +kernel
theorem d_Wd_goAlong_11 : decode b_Wd_goAlong 11 = .ok (.iload_n 2, 1) := by decide +kernel
theorem d_Wd_goAlong_12 : decode b_Wd_goAlong 12 = .ok (.idiv, 1) := by decide +kernel
theorem d_Wd_goAlong_13 : decode b_Wd_goAlong 13 = .ok (.bipush 10, 2) := by decide +kernel
theorem d_Wd_goAlong_15 : decode b_Wd_goAlong 15 = .ok (.if_icmp .lt 14, 3) := by decide +kernel
theorem d_Wd_goAlong_18 : decode b_Wd_goAlong 18 = .ok (.iload_n 2, 1) := by decide +kernel
theorem d_Wd_goAlong_19 : decode b_Wd_goAlong 19 = .ok (.bipush 10, 2) := by decide +kernel
theorem d_Wd_goAlong_21 : decode b_Wd_goAlong 21 = .ok (.imul, 1) := by decide +kernel
theorem d_Wd_goAlong_22 : decode b_Wd_goAlong 22 = .ok (.istore_n 2, 1) := by decide +kernel
theorem d_Wd_goAlong_23 : decode b_Wd_goAlong 23 = .ok (.iinc 3 1, 3) := by decide +kernel
theorem d_Wd_goAlong_26 : decode b_Wd_goAlong 26 = .ok (.goto (-22), 3) := by decide +kernel
theorem d_Wd_goAlong_29 : decode b_Wd_goAlong 29 = .ok (.iload_n 2, 1) := by decide +kernel
theorem d_Wd_goAlong_30 : decode b_Wd_goAlong 30 = .ok (.ifCond .le 23, 3) := by decide +kernel
theorem d_Wd_goAlong_33 : decode b_Wd_goAlong 33 = .ok (.aload_n 0, 1) := by decide +kernel
theorem d_Wd_goAlong_34 : decode b_Wd_goAlong 34 = .ok (.iload_n 1, 1) := by decide +kernel
theorem d_Wd_goAlong_35 : decode b_Wd_goAlong 35 = .ok (.iload_n 2, 1) := by decide +kernel
theorem d_Wd_goAlong_36 : decode b_Wd_goAlong 36 = .ok (.idiv, 1) := by decide +kernel
theorem d_Wd_goAlong_37 : decode b_Wd_goAlong 37 = .ok (.bipush 10, 2) := by decide +kernel
theorem d_Wd_goAlong_39 : decode b_Wd_goAlong 39 = .ok (.irem, 1) := by decide +kernel
theorem d_Wd_goAlong_40 : decode b_Wd_goAlong 40 = .ok (.iconst 1, 1) := by decide +kernel
theorem d_Wd_goAlong_41 : decode b_Wd_goAlong 41 = .ok (.isub, 1) := by decide +kernel
theorem d_Wd_goAlong_42 : decode b_Wd_goAlong 42 = .ok (.invokevirtual 26, 3) := by decide +kernel
theorem d_Wd_goAlong_45 : decode b_Wd_goAlong 45 = .ok (.iload_n 2, 1) := by decide +kernel
theorem d_Wd_goAlong_46 : decode b_Wd_goAlong 46 = .ok (.bipush 10, 2) := by decide +kernel
theorem d_Wd_goAlong_48 : decode b_Wd_goAlong 48 = .ok (.idiv, 1) := by decide +kernel
theorem d_Wd_goAlong_49 : decode b_Wd_goAlong 49 = .ok (.istore_n 2, 1) := by decide +kernel
theorem d_Wd_goAlong_50 : decode b_Wd_goAlong 50 = .ok (.goto (-21), 3) := by decide +kernel
theorem d_Wd_goAlong_53 : decode b_Wd_goAlong 53 = .ok (.return_, 1) := by decide +kernel
theorem d_Wd_goBackAlong_0 : decode b_Wd_goBackAlong 0 = .ok (.iload_n 1, 1) := by decide +kernel
theorem d_Wd_goBackAlong_1 : decode b_Wd_goBackAlong 1 = .ok (.istore_n 2, 1) := by decide +kernel
theorem d_Wd_goBackAlong_2 : decode b_Wd_goBackAlong 2 = .ok (.iload_n 2, 1) := by decide +kernel
theorem d_Wd_goBackAlong_3 : decode b_Wd_goBackAlong 3 = .ok (.ifCond .le 21, 3) := by decide +kernel
theorem d_Wd_goBackAlong_6 : decode b_Wd_goBackAlong 6 = .ok (.aload_n 0, 1) := by decide +kernel
theorem d_Wd_goBackAlong_7 : decode b_Wd_goBackAlong 7 = .ok (.iload_n 2, 1) := by decide +kernel
theorem d_Wd_goBackAlong_8 : decode b_Wd_goBackAlong 8 = .ok (.bipush 10, 2) := by decide +kernel
theorem d_Wd_goBackAlong_10 : decode b_Wd_goBackAlong 10 = .ok (.irem, 1) := by decide +kernel
theorem d_Wd_goBackAlong_11 : decode b_Wd_goBackAlong 11 = .ok (.iconst 1, 1) := by decide +kernel
theorem d_Wd_goBackAlong_12 : decode b_Wd_goBackAlong 12 = .ok (.isub, 1) := by decide +kernel
theorem d_Wd_goBackAlong_13 : decode b_Wd_goBackAlong 13 = .ok (.invokevirtual 26, 3) := by decide +kernel
theorem d_Wd_goBackAlong_16 : decode b_Wd_goBackAlong 16 = .ok (.iload_n 2, 1) := by decide +kernel
theorem d_Wd_goBackAlong_17 : decode b_Wd_goBackAlong 17 = .ok (.bipush 10, 2) := by decide +kernel
theorem d_Wd_goBackAlong_19 : decode b_Wd_goBackAlong 19 = .ok (.idiv, 1) := by decide +kernel
theorem d_Wd_goBackAlong_20 : decode b_Wd_goBackAlong 20 = .ok (.istore_n 2, 1) := by decide +kernel
theorem d_Wd_goBackAlong_21 : decode b_Wd_goBackAlong 21 = .ok (.goto (-19), 3) := by decide +kernel
theorem d_Wd_goBackAlong_24 : decode b_Wd_goBackAlong 24 = .ok (.return_, 1) := by decide +kernel
theorem d_Wd_go_0 : decode b_Wd_go 0 = .ok (.iload_n 1, 1) := by decide +kernel
theorem d_Wd_go_1 : decode b_Wd_go 1 = .ok (.invokestatic 29, 3) := by decide +kernel
theorem d_Wd_go_4 : decode b_Wd_go 4 = .ok (.ifCond .ne 4, 3) := by decide +kernel
theorem d_Wd_go_7 : decode b_Wd_go 7 = .ok (.return_, 1) := by decide +kernel
theorem d_Wd_go_8 : decode b_Wd_go 8 = .ok (.aload_n 0, 1) := by decide +kernel
theorem d_Wd_go_9 : decode b_Wd_go 9 = .ok (.getfield 15, 3) := by decide +kernel
theorem d_Wd_go_12 : decode b_Wd_go 12 = .ok (.istore_n 2, 1) := by decide +kernel
theorem d_Wd_go_13 : decode b_Wd_go 13 = .ok (.iload_n 2, 1) := by decide +kernel
theorem d_Wd_go_14 : decode b_Wd_go 14 = .ok (.ifCond .le 24, 3) := by decide +kernel
theorem d_Wd_go_17 : decode b_Wd_go 17 = .ok (.aload_n 0, 1) := by decide +kernel
theorem d_Wd_go_18 : decode b_Wd_go 18 = .ok (.getfield 11, 3) := by decide +kernel
theorem d_Wd_go_21 : decode b_Wd_go 21 = .ok (.iload_n 2, 1) := by decide +kernel
theorem d_Wd_go_22 : decode b_Wd_go 22 = .ok (.iconst 1, 1) := by decide +kernel
theorem d_Wd_go_23 : decode b_Wd_go 23 = .ok (.isub, 1) := by decide +kernel
theorem d_Wd_go_24 : decode b_Wd_go 24 = .ok (.iaload, 1) := by decide +kernel
theorem d_Wd_go_25 : decode b_Wd_go 25 = .ok (.iload_n 1, 1) := by decide +kernel
theorem d_Wd_go_26 : decode b_Wd_go 26 = .ok (.invokestatic 33, 3) := by decide +kernel
theorem d_Wd_go_29 : decode b_Wd_go 29 = .ok (.ifCond .eq 9, 3) := by decide +kernel
theorem d_Wd_go_32 : decode b_Wd_go 32 = .ok (.iinc 2 (-1), 3) := by decide +kernel
theorem d_Wd_go_35 : decode b_Wd_go 35 = .ok (.goto (-22), 3) := by decide +kernel
theorem d_Wd_go_38 : decode b_Wd_go 38 = .ok (.iload_n 2, 1) := by decide +kernel
theorem d_Wd_go_39 : decode b_Wd_go 39 = .ok (.ifCond .le 23, 3) := by decide +kernel
theorem d_Wd_go_42 : decode b_Wd_go 42 = .ok (.aload_n 0, 1) := by decide +kernel
theorem d_Wd_go_43 : decode b_Wd_go 43 = .ok (.getfield 11, 3) := by decide +kernel
theorem d_Wd_go_46 : decode b_Wd_go 46 = .ok (.iload_n 2, 1) := by decide +kernel
theorem d_Wd_go_47 : decode b_Wd_go 47 = .ok (.iconst 1, 1) := by decide +kernel
theorem d_Wd_go_48 : decode b_Wd_go 48 = .ok (.isub, 1) := by decide +kernel
theorem d_Wd_go_49 : decode b_Wd_go 49 = .ok (.iaload, 1) := by decide +kernel
theorem d_Wd_go_50 : decode b_Wd_go 50 = .ok (.iload_n 1, 1) := by decide +kernel
theorem d_Wd_go_51 : decode b_Wd_go 51 = .ok (.if_icmp .ne 11, 3) := by decide +kernel
theorem d_Wd_go_54 : decode b_Wd_go 54 = .ok (.aload_n 0, 1) := by decide +kernel
theorem d_Wd_go_55 : decode b_Wd_go 55 = .ok (.iload_n 2, 1) := by decide +kernel
theorem d_Wd_go_56 : decode b_Wd_go 56 = .ok (.iconst 1, 1) := by decide +kernel
theorem d_Wd_go_57 : decode b_Wd_go 57 = .ok (.isub, 1) := by decide +kernel
theorem d_Wd_go_58 : decode b_Wd_go 58 = .ok (.invokevirtual 37, 3) := by decide +kernel
theorem d_Wd_go_61 : decode b_Wd_go 61 = .ok (.return_, 1) := by decide +kernel
theorem d_Wd_go_62 : decode b_Wd_go 62 = .ok (.iload_n 2, 1) := by decide +kernel
theorem d_Wd_go_63 : decode b_Wd_go 63 = .ok (.aload_n 0, 1) := by decide +kernel
theorem d_Wd_go_64 : decode b_Wd_go 64 = .ok (.getfield 15, 3) := by decide +kernel
theorem d_Wd_go_67 : decode b_Wd_go 67 = .ok (.if_icmp .ge 19, 3) := by decide +kernel
theorem d_Wd_go_70 : decode b_Wd_go 70 = .ok (.aload_n 0, 1) := by decide +kernel
theorem d_Wd_go_71 : decode b_Wd_go 71 = .ok (.getfield 11, 3) := by decide +kernel
theorem d_Wd_go_74 : decode b_Wd_go 74 = .ok (.iload_n 2, 1) := by decide +kernel
theorem d_Wd_go_75 : decode b_Wd_go 75 = .ok (.iaload, 1) := by decide +kernel
theorem d_Wd_go_76 : decode b_Wd_go 76 = .ok (.iload_n 1, 1) := by decide +kernel
theorem d_Wd_go_77 : decode b_Wd_go 77 = .ok (.if_icmp .ge 9, 3) := by decide +kernel
theorem d_Wd_go_80 : decode b_Wd_go 80 = .ok (.iinc 2 1, 3) := by decide +kernel
theorem d_Wd_go_83 : decode b_Wd_go 83 = .ok (.goto (-21), 3) := by decide +kernel
theorem d_Wd_go_86 : decode b_Wd_go 86 = .ok (.aload_n 0, 1) := by decide +kernel
theorem d_Wd_go_87 : decode b_Wd_go 87 = .ok (.iload_n 2, 1) := by decide +kernel
theorem d_Wd_go_88 : decode b_Wd_go 88 = .ok (.iload_n 1, 1) := by decide +kernel
theorem d_Wd_go_89 : decode b_Wd_go 89 = .ok (.invokevirtual 40, 3) := by decide +kernel
theorem d_Wd_go_92 : decode b_Wd_go 92 = .ok (.return_, 1) := by decide +kernel
theorem d_Wd_goNear_0 : decode b_Wd_goNear 0 = .ok (.aload_n 0, 1) := by decide +kernel
theorem d_Wd_goNear_1 : decode b_Wd_goNear 1 = .ok (.iload_n 1, 1) := by decide +kernel
theorem d_Wd_goNear_2 : decode b_Wd_goNear 2 = .ok (.invokevirtual 26, 3) := by decide +kernel
theorem d_Wd_goNear_5 : decode b_Wd_goNear 5 = .ok (.aload_n 0, 1) := by decide +kernel
theorem d_Wd_goNear_6 : decode b_Wd_goNear 6 = .ok (.getfield 15, 3) := by decide +kernel
theorem d_Wd_goNear_9 : decode b_Wd_goNear 9 = .ok (.bipush 9, 2) := by decide +kernel
theorem d_Wd_goNear_11 : decode b_Wd_goNear 11 = .ok (.if_icmp .gt 5, 3) := by decide +kernel
theorem d_Wd_goNear_14 : decode b_Wd_goNear 14 = .ok (.iconst 1, 1) := by decide +kernel
theorem d_Wd_goNear_15 : decode b_Wd_goNear 15 = .ok (.ireturn, 1) := by decide +kernel
theorem d_Wd_goNear_16 : decode b_Wd_goNear 16 = .ok (.aload_n 0, 1) := by decide +kernel
theorem d_Wd_goNear_17 : decode b_Wd_goNear 17 = .ok (.iload_n 1, 1) := by decide +kernel
theorem d_Wd_goNear_18 : decode b_Wd_goNear 18 = .ok (.invokevirtual 26, 3) := by decide +kernel
theorem d_Wd_goNear_21 : decode b_Wd_goNear 21 = .ok (.iconst 0, 1) := by decide +kernel
theorem d_Wd_goNear_22 : decode b_Wd_goNear 22 = .ok (.ireturn, 1) := by decide +kernel
theorem d_Wd_takeOut_0 : decode b_Wd_takeOut 0 = .ok (.iload_n 1, 1) := by decide +kernel
theorem d_Wd_takeOut_1 : decode b_Wd_takeOut 1 = .ok (.istore_n 2, 1) := by decide +kernel
theorem d_Wd_takeOut_2 : decode b_Wd_takeOut 2 = .ok (.iload_n 2, 1) := by decide +kernel
theorem d_Wd_takeOut_3 : decode b_Wd_takeOut 3 = .ok (.iconst 1, 1) := by decide +kernel
theorem d_Wd_takeOut_4 : decode b_Wd_takeOut 4 = .ok (.iadd, 1) := by decide +kernel
theorem d_Wd_takeOut_5 : decode b_Wd_takeOut 5 = .ok (.aload_n 0, 1) := by decide +kernel
theorem d_Wd_takeOut_6 : decode b_Wd_takeOut 6 = .ok (.getfield 15, 3) := by decide +kernel
theorem d_Wd_takeOut_9 : decode b_Wd_takeOut 9 = .ok (.if_icmp .ge 23, 3) := by decide +kernel
theorem d_Wd_takeOut_12 : decode b_Wd_takeOut 12 = .ok (.aload_n 0, 1) := by decide +kernel
theorem d_Wd_takeOut_13 : decode b_Wd_takeOut 13 = .ok (.getfield 11, 3) := by decide +kernel
theorem d_Wd_takeOut_16 : decode b_Wd_takeOut 16 = .ok (.iload_n 2, 1) := by decide +kernel
theorem d_Wd_takeOut_17 : decode b_Wd_takeOut 17 = .ok (.aload_n 0, 1) := by decide +kernel
theorem d_Wd_takeOut_18 : decode b_Wd_takeOut 18 = .ok (.getfield 11, 3) := by decide +kernel
theorem d_Wd_takeOut_21 : decode b_Wd_takeOut 21 = .ok (.iload_n 2, 1) := by decide +kernel
theorem d_Wd_takeOut_22 : decode b_Wd_takeOut 22 = .ok (.iconst 1, 1) := by decide +kernel
theorem d_Wd_takeOut_23 : decode b_Wd_takeOut 23 = .ok (.iadd, 1) := by decide +kernel
theorem d_Wd_takeOut_24 : decode b_Wd_takeOut 24 = .ok (.iaload, 1) := by decide +kernel
theorem d_Wd_takeOut_25 : decode b_Wd_takeOut 25 = .ok (.iastore, 1) := by decide +kernel
theorem d_Wd_takeOut_26 : decode b_Wd_takeOut 26 = .ok (.iinc 2 1, 3) := by decide +kernel
theorem d_Wd_takeOut_29 : decode b_Wd_takeOut 29 = .ok (.goto (-27), 3) := by decide +kernel
theorem d_Wd_takeOut_32 : decode b_Wd_takeOut 32 = .ok (.aload_n 0, 1) := by decide +kernel
theorem d_Wd_takeOut_33 : decode b_Wd_takeOut 33 = .ok (.dup, 1) := by decide +kernel
theorem d_Wd_takeOut_34 : decode b_Wd_takeOut 34 = .ok (.getfield 15, 3) := by decide +kernel
theorem d_Wd_takeOut_37 : decode b_Wd_takeOut 37 = .ok (.iconst 1, 1) := by decide +kernel
theorem d_Wd_takeOut_38 : decode b_Wd_takeOut 38 = .ok (.isub, 1) := by decide +kernel
theorem d_Wd_takeOut_39 : decode b_Wd_takeOut 39 = .ok (.putfield 15, 3) := by decide +kernel
theorem d_Wd_takeOut_42 : decode b_Wd_takeOut 42 = .ok (.return_, 1) := by decide +kernel
theorem d_Wd_putIn_0 : decode b_Wd_putIn 0 = .ok (.aload_n 0, 1) := by decide +kernel
theorem d_Wd_putIn_1 : decode b_Wd_putIn 1 = .ok (.getfield 15, 3) := by decide +kernel
theorem d_Wd_putIn_4 : decode b_Wd_putIn 4 = .ok (.bipush 64, 2) := by decide +kernel
theorem d_Wd_putIn_6 : decode b_Wd_putIn 6 = .ok (.if_icmp .lt 4, 3) := by decide +kernel
theorem d_Wd_putIn_9 : decode b_Wd_putIn 9 = .ok (.return_, 1) := by decide +kernel
theorem d_Wd_putIn_10 : decode b_Wd_putIn 10 = .ok (.aload_n 0, 1) := by decide +kernel
theorem d_Wd_putIn_11 : decode b_Wd_putIn 11 = .ok (.getfield 15, 3) := by decide +kernel
theorem d_Wd_putIn_14 : decode b_Wd_putIn 14 = .ok (.istore_n 3, 1) := by decide +kernel
theorem d_Wd_putIn_15 : decode b_Wd_putIn 15 = .ok (.iload_n 3, 1) := by decide +kernel
theorem d_Wd_putIn_16 : decode b_Wd_putIn 16 = .ok (.iload_n 1, 1) := by decide +kernel
theorem d_Wd_putIn_17 : decode b_Wd_putIn 17 = .ok (.if_icmp .le 23, 3) := by decide +kernel
theorem d_Wd_putIn_20 : decode b_Wd_putIn 20 = .ok (.aload_n 0, 1) := by decide +kernel
theorem d_Wd_putIn_21 : decode b_Wd_putIn 21 = .ok (.getfield 11, 3) := by decide +kernel
theorem d_Wd_putIn_24 : decode b_Wd_putIn 24 = .ok (.iload_n 3, 1) := by decide +kernel
theorem d_Wd_putIn_25 : decode b_Wd_putIn 25 = .ok (.aload_n 0, 1) := by decide +kernel
theorem d_Wd_putIn_26 : decode b_Wd_putIn 26 = .ok (.getfield 11, 3) := by decide +kernel
theorem d_Wd_putIn_29 : decode b_Wd_putIn 29 = .ok (.iload_n 3, 1) := by decide +kernel
theorem d_Wd_putIn_30 : decode b_Wd_putIn 30 = .ok (.iconst 1, 1) := by decide +kernel
theorem d_Wd_putIn_31 : decode b_Wd_putIn 31 = .ok (.isub, 1) := by decide +kernel
theorem d_Wd_putIn_32 : decode b_Wd_putIn 32 = .ok (.iaload, 1) := by decide +kernel
theorem d_Wd_putIn_33 : decode b_Wd_putIn 33 = .ok (.iastore, 1) := by decide +kernel
theorem d_Wd_putIn_34 : decode b_Wd_putIn 34 = .ok (.iinc 3 (-1), 3) := by decide +kernel
theorem d_Wd_putIn_37 : decode b_Wd_putIn 37 = .ok (.goto (-22), 3) := by decide +kernel
theorem d_Wd_putIn_40 : decode b_Wd_putIn 40 = .ok (.aload_n 0, 1) := by decide +kernel
theorem d_Wd_putIn_41 : decode b_Wd_putIn 41 = .ok (.getfield 11, 3) := by decide +kernel
theorem d_Wd_putIn_44 : decode b_Wd_putIn 44 = .ok (.iload_n 1, 1) := by decide +kernel
theorem d_Wd_putIn_45 : decode b_Wd_putIn 45 = .ok (.iload_n 2, 1) := by decide +kernel
theorem d_Wd_putIn_46 : decode b_Wd_putIn 46 = .ok (.iastore, 1) := by decide +kernel
theorem d_Wd_putIn_47 : decode b_Wd_putIn 47 = .ok (.aload_n 0, 1) := by decide +kernel
theorem d_Wd_putIn_48 : decode b_Wd_putIn 48 = .ok (.dup, 1) := by decide +kernel
theorem d_Wd_putIn_49 : decode b_Wd_putIn 49 = .ok (.getfield 15, 3) := by decide +kernel
theorem d_Wd_putIn_52 : decode b_Wd_putIn 52 = .ok (.iconst 1, 1) := by decide +kernel
theorem d_Wd_putIn_53 : decode b_Wd_putIn 53 = .ok (.iadd, 1) := by decide +kernel
theorem d_Wd_putIn_54 : decode b_Wd_putIn 54 = .ok (.putfield 15, 3) := by decide +kernel
theorem d_Wd_putIn_57 : decode b_Wd_putIn 57 = .ok (.return_, 1) := by decide +kernel
theorem d_Wd_canBeLast_0 : decode b_Wd_canBeLast 0 = .ok (.iload_n 1, 1) := by decide +kernel
theorem d_Wd_canBeLast_1 : decode b_Wd_canBeLast 1 = .ok (.iconst 1, 1) := by decide +kernel
theorem d_Wd_canBeLast_2 : decode b_Wd_canBeLast 2 = .ok (.iadd, 1) := by decide +kernel
theorem d_Wd_canBeLast_3 : decode b_Wd_canBeLast 3 = .ok (.istore_n 3, 1) := by decide +kernel
theorem d_Wd_canBeLast_4 : decode b_Wd_canBeLast 4 = .ok (.iload_n 3, 1) := by decide +kernel
theorem d_Wd_canBeLast_5 : decode b_Wd_canBeLast 5 = .ok (.aload_n 0, 1) := by decide +kernel
theorem d_Wd_canBeLast_6 : decode b_Wd_canBeLast 6 = .ok (.getfield 15, 3) := by decide +kernel
theorem d_Wd_canBeLast_9 : decode b_Wd_canBeLast 9 = .ok (.if_icmp .ge 38, 3) := by decide +kernel
theorem d_Wd_canBeLast_12 : decode b_Wd_canBeLast 12 = .ok (.iload_n 2, 1) := by decide +kernel
theorem d_Wd_canBeLast_13 : decode b_Wd_canBeLast 13 = .ok (.iload_n 3, 1) := by decide +kernel
theorem d_Wd_canBeLast_14 : decode b_Wd_canBeLast 14 = .ok (.ishr, 1) := by decide +kernel
theorem d_Wd_canBeLast_15 : decode b_Wd_canBeLast 15 = .ok (.iconst 1, 1) := by decide +kernel
theorem d_Wd_canBeLast_16 : decode b_Wd_canBeLast 16 = .ok (.iand, 1) := by decide +kernel
theorem d_Wd_canBeLast_17 : decode b_Wd_canBeLast 17 = .ok (.iconst 1, 1) := by decide +kernel
theorem d_Wd_canBeLast_18 : decode b_Wd_canBeLast 18 = .ok (.if_icmp .ne 23, 3) := by decide +kernel
theorem d_Wd_canBeLast_21 : decode b_Wd_canBeLast 21 = .ok (.aload_n 0, 1) := by decide +kernel
theorem d_Wd_canBeLast_22 : decode b_Wd_canBeLast 22 = .ok (.getfield 11, 3) := by decide +kernel
theorem d_Wd_canBeLast_25 : decode b_Wd_canBeLast 25 = .ok (.iload_n 1, 1) := by decide +kernel
theorem d_Wd_canBeLast_26 : decode b_Wd_canBeLast 26 = .ok (.iaload, 1) := by decide +kernel
theorem d_Wd_canBeLast_27 : decode b_Wd_canBeLast 27 = .ok (.aload_n 0, 1) := by decide +kernel
theorem d_Wd_canBeLast_28 : decode b_Wd_canBeLast 28 = .ok (.getfield 11, 3) := by decide +kernel
theorem d_Wd_canBeLast_31 : decode b_Wd_canBeLast 31 = .ok (.iload_n 3, 1) := by decide +kernel
theorem d_Wd_canBeLast_32 : decode b_Wd_canBeLast 32 = .ok (.iaload, 1) := by decide +kernel
theorem d_Wd_canBeLast_33 : decode b_Wd_canBeLast 33 = .ok (.invokestatic 33, 3) := by decide +kernel
theorem d_Wd_canBeLast_36 : decode b_Wd_canBeLast 36 = .ok (.ifCond .ne 5, 3) := by decide +kernel
theorem d_Wd_canBeLast_39 : decode b_Wd_canBeLast 39 = .ok (.iconst 0, 1) := by decide +kernel
theorem d_Wd_canBeLast_40 : decode b_Wd_canBeLast 40 = .ok (.ireturn, 1) := by decide +kernel
theorem d_Wd_canBeLast_41 : decode b_Wd_canBeLast 41 = .ok (.iinc 3 1, 3) := by decide +kernel
theorem d_Wd_canBeLast_44 : decode b_Wd_canBeLast 44 = .ok (.goto (-40), 3) := by decide +kernel
theorem d_Wd_canBeLast_47 : decode b_Wd_canBeLast 47 = .ok (.iconst 1, 1) := by decide +kernel
theorem d_Wd_canBeLast_48 : decode b_Wd_canBeLast 48 = .ok (.ireturn, 1) := by decide +kernel
theorem d_Wd_lastStreets_0 : decode b_Wd_lastStreets 0 = .ok (.iconst 0, 1) := by decide +kernel
theorem d_Wd_lastStreets_1 : decode b_Wd_lastStreets 1 = .ok (.istore_n 1, 1) := by decide +kernel
theorem d_Wd_lastStreets_2 : decode b_Wd_lastStreets 2 = .ok (.iconst 0, 1) := by decide +kernel
theorem d_Wd_lastStreets_3 : decode b_Wd_lastStreets 3 = .ok (.istore_n 2, 1) := by decide +kernel
theorem d_Wd_lastStreets_4 : decode b_Wd_lastStreets 4 = .ok (.iload_n 2, 1) := by decide +kernel
theorem d_Wd_lastStreets_5 : decode b_Wd_lastStreets 5 = .ok (.aload_n 0, 1) := by decide +kernel
theorem d_Wd_lastStreets_6 : decode b_Wd_lastStreets 6 = .ok (.getfield 15, 3) := by decide +kernel
theorem d_Wd_lastStreets_9 : decode b_Wd_lastStreets 9 = .ok (.if_icmp .ge 29, 3) := by decide +kernel
theorem d_Wd_lastStreets_12 : decode b_Wd_lastStreets 12 = .ok (.aload_n 0, 1) := by decide +kernel
theorem d_Wd_lastStreets_13 : decode b_Wd_lastStreets 13 = .ok (.iload_n 2, 1) := by decide +kernel
theorem d_Wd_lastStreets_14 : decode b_Wd_lastStreets 14 = .ok (.iconst (-1), 1) := by decide +kernel
theorem d_Wd_lastStreets_15 : decode b_Wd_lastStreets 15 = .ok (.invokevirtual 44, 3) := by decide +kernel
theorem d_Wd_lastStreets_18 : decode b_Wd_lastStreets 18 = .ok (.ifCond .eq 14, 3) := by decide +kernel
theorem d_Wd_lastStreets_21 : decode b_Wd_lastStreets 21 = .ok (.iload_n 1, 1) := by decide +kernel
theorem d_Wd_lastStreets_22 : decode b_Wd_lastStreets 22 = .ok (.iconst 1, 1) := by decide +kernel
theorem d_Wd_lastStreets_23 : decode b_Wd_lastStreets 23 = .ok (.aload_n 0, 1) := by decide +kernel
theorem d_Wd_lastStreets_24 : decode b_Wd_lastStreets 24 = .ok (.getfield 11, 3) := by decide +kernel
theorem d_Wd_lastStreets_27 : decode b_Wd_lastStreets 27 = .ok (.iload_n 2, 1) := by decide +kernel
theorem d_Wd_lastStreets_28 : decode b_Wd_lastStreets 28 = .ok (.iaload, 1) := by decide +kernel
theorem d_Wd_lastStreets_29 : decode b_Wd_lastStreets 29 = .ok (.ishl, 1) := by decide +kernel
theorem d_Wd_lastStreets_30 : decode b_Wd_lastStreets 30 = .ok (.ior, 1) := by decide +kernel
theorem d_Wd_lastStreets_31 : decode b_Wd_lastStreets 31 = .ok (.istore_n 1, 1) := by decide +kernel
theorem d_Wd_lastStreets_32 : decode b_Wd_lastStreets 32 = .ok (.iinc 2 1, 3) := by decide +kernel
theorem d_Wd_lastStreets_35 : decode b_Wd_lastStreets 35 = .ok (.goto (-31), 3) := by decide +kernel
theorem d_Wd_lastStreets_38 : decode b_Wd_lastStreets 38 = .ok (.iload_n 1, 1) := by decide +kernel
theorem d_Wd_lastStreets_39 : decode b_Wd_lastStreets 39 = .ok (.ireturn, 1) := by decide +kernel
theorem d_Wd_code_0 : decode b_Wd_code 0 = .ok (.aload_n 0, 1) := by decide +kernel
theorem d_Wd_code_1 : decode b_Wd_code 1 = .ok (.getfield 15, 3) := by decide +kernel
theorem d_Wd_code_4 : decode b_Wd_code 4 = .ok (.bipush 9, 2) := by decide +kernel
theorem d_Wd_code_6 : decode b_Wd_code 6 = .ok (.if_icmp .le 6, 3) := by decide +kernel
theorem d_Wd_code_9 : decode b_Wd_code 9 = .ok (.bipush (-6), 2) := by decide +kernel
theorem d_Wd_code_11 : decode b_Wd_code 11 = .ok (.ireturn, 1) := by decide +kernel
theorem d_Wd_code_12 : decode b_Wd_code 12 = .ok (.iconst 0, 1) := by decide +kernel
theorem d_Wd_code_13 : decode b_Wd_code 13 = .ok (.istore_n 1, 1) := by decide +kernel
theorem d_Wd_code_14 : decode b_Wd_code 14 = .ok (.iconst 0, 1) := by decide +kernel
theorem d_Wd_code_15 : decode b_Wd_code 15 = .ok (.istore_n 2, 1) := by decide +kernel
theorem d_Wd_code_16 : decode b_Wd_code 16 = .ok (.iload_n 2, 1) := by decide +kernel
theorem d_Wd_code_17 : decode b_Wd_code 17 = .ok (.aload_n 0, 1) := by decide +kernel
theorem d_Wd_code_18 : decode b_Wd_code 18 = .ok (.getfield 15, 3) := by decide +kernel
theorem d_Wd_code_21 : decode b_Wd_code 21 = .ok (.if_icmp .ge 23, 3) := by decide +kernel
theorem d_Wd_code_24 : decode b_Wd_code 24 = .ok (.iload_n 1, 1) := by decide +kernel
theorem d_Wd_code_25 : decode b_Wd_code 25 = .ok (.bipush 10, 2) := by decide +kernel
theorem d_Wd_code_27 : decode b_Wd_code 27 = .ok (.imul, 1) := by decide +kernel
theorem d_Wd_code_28 : decode b_Wd_code 28 = .ok (.aload_n 0, 1) := by decide +kernel
theorem d_Wd_code_29 : decode b_Wd_code 29 = .ok (.getfield 11, 3) := by decide +kernel
theorem d_Wd_code_32 : decode b_Wd_code 32 = .ok (.iload_n 2, 1) := by decide +kernel
theorem d_Wd_code_33 : decode b_Wd_code 33 = .ok (.iaload, 1) := by decide +kernel
theorem d_Wd_code_34 : decode b_Wd_code 34 = .ok (.iadd, 1) := by decide +kernel
theorem d_Wd_code_35 : decode b_Wd_code 35 = .ok (.iconst 1, 1) := by decide +kernel
theorem d_Wd_code_36 : decode b_Wd_code 36 = .ok (.iadd, 1) := by decide +kernel
theorem d_Wd_code_37 : decode b_Wd_code 37 = .ok (.istore_n 1, 1) := by decide +kernel
theorem d_Wd_code_38 : decode b_Wd_code 38 = .ok (.iinc 2 1, 3) := by decide +kernel
theorem d_Wd_code_41 : decode b_Wd_code 41 = .ok (.goto (-25), 3) := by decide +kernel
theorem d_Wd_code_44 : decode b_Wd_code 44 = .ok (.iload_n 1, 1) := by decide +kernel
theorem d_Wd_code_45 : decode b_Wd_code 45 = .ok (.ireturn, 1) := by decide +kernel
theorem d_X_init_0 : decode b_X_init 0 = .ok (.aload_n 0, 1) := by decide +kernel
theorem d_X_init_1 : decode b_X_init 1 = .ok (.invokespecial 1, 3) := by decide +kernel
theorem d_X_init_4 : decode b_X_init 4 = .ok (.aload_n 0, 1) := by decide +kernel
theorem d_X_init_5 : decode b_X_init 5 = .ok (.bipush 6, 2) := by decide +kernel
theorem d_X_init_7 : decode b_X_init 7 = .ok (.bipush 40, 2) := by decide +kernel
theorem d_X_init_9 : decode b_X_init 9 = .ok (.multianewarray 9 2, 4) := by decide +kernel
theorem d_X_init_13 : decode b_X_init 13 = .ok (.putfield 11, 3) := by decide +kernel
theorem d_X_init_16 : decode b_X_init 16 = .ok (.aload_n 0, 1) := by decide +kernel
theorem d_X_init_17 : decode b_X_init 17 = .ok (.bipush 6, 2) := by decide +kernel
theorem d_X_init_19 : decode b_X_init 19 = .ok (.newarray .int, 2) := by decide +kernel
theorem d_X_init_21 : decode b_X_init 21 = .ok (.putfield 14, 3) := by decide +kernel
theorem d_X_init_24 : decode b_X_init 24 = .ok (.aload_n 0, 1) := by decide +kernel
theorem d_X_init_25 : decode b_X_init 25 = .ok (.iconst 4, 1) := by decide +kernel
theorem d_X_init_26 : decode b_X_init 26 = .ok (.bipush 80, 2) := by decide +kernel
theorem d_X_init_28 : decode b_X_init 28 = .ok (.multianewarray 18 2, 4) := by decide +kernel
theorem d_X_init_32 : decode b_X_init 32 = .ok (.putfield 20, 3) := by decide +kernel
theorem d_X_init_35 : decode b_X_init 35 = .ok (.aload_n 0, 1) := by decide +kernel
theorem d_X_init_36 : decode b_X_init 36 = .ok (.iconst 4, 1) := by decide +kernel
theorem d_X_init_37 : decode b_X_init 37 = .ok (.newarray .int, 2) := by decide +kernel
theorem d_X_init_39 : decode b_X_init 39 = .ok (.putfield 23, 3) := by decide +kernel
theorem d_X_init_42 : decode b_X_init 42 = .ok (.aload_n 0, 1) := by decide +kernel
theorem d_X_init_43 : decode b_X_init 43 = .ok (.new 26, 3) := by decide +kernel
theorem d_X_init_46 : decode b_X_init 46 = .ok (.dup, 1) := by decide +kernel
theorem d_X_init_47 : decode b_X_init 47 = .ok (.invokespecial 28, 3) := by decide +kernel
theorem d_X_init_50 : decode b_X_init 50 = .ok (.putfield 29, 3) := by decide +kernel
theorem d_X_init_53 : decode b_X_init 53 = .ok (.aload_n 0, 1) := by decide +kernel
theorem d_X_init_54 : decode b_X_init 54 = .ok (.new 33, 3) := by decide +kernel
theorem d_X_init_57 : decode b_X_init 57 = .ok (.dup, 1) := by decide +kernel
theorem d_X_init_58 : decode b_X_init 58 = .ok (.invokespecial 35, 3) := by decide +kernel
theorem d_X_init_61 : decode b_X_init 61 = .ok (.putfield 36, 3) := by decide +kernel
theorem d_X_init_64 : decode b_X_init 64 = .ok (.aload_n 0, 1) := by decide +kernel
theorem d_X_init_65 : decode b_X_init 65 = .ok (.iconst 3, 1) := by decide +kernel
theorem d_X_init_66 : decode b_X_init 66 = .ok (.anewarray 33, 3) := by decide +kernel
theorem d_X_init_69 : decode b_X_init 69 = .ok (.putfield 40, 3) := by decide +kernel
theorem d_X_init_72 : decode b_X_init 72 = .ok (.aload_n 0, 1) := by decide +kernel
theorem d_X_init_73 : decode b_X_init 73 = .ok (.new 44, 3) := by decide +kernel
theorem d_X_init_76 : decode b_X_init 76 = .ok (.dup, 1) := by decide +kernel
theorem d_X_init_77 : decode b_X_init 77 = .ok (.invokespecial 46, 3) := by decide +kernel
theorem d_X_init_80 : decode b_X_init 80 = .ok (.putfield 47, 3) := by decide +kernel
theorem d_X_init_83 : decode b_X_init 83 = .ok (.aload_n 0, 1) := by decide +kernel
theorem d_X_init_84 : decode b_X_init 84 = .ok (.new 51, 3) := by decide +kernel
theorem d_X_init_87 : decode b_X_init 87 = .ok (.dup, 1) := by decide +kernel
theorem d_X_init_88 : decode b_X_init 88 = .ok (.invokespecial 53, 3) := by decide +kernel
theorem d_X_init_91 : decode b_X_init 91 = .ok (.putfield 54, 3) := by decide +kernel
theorem d_X_init_94 : decode b_X_init 94 = .ok (.aload_n 0, 1) := by decide +kernel
theorem d_X_init_95 : decode b_X_init 95 = .ok (.new 51, 3) := by decide +kernel
theorem d_X_init_98 : decode b_X_init 98 = .ok (.dup, 1) := by decide +kernel
theorem d_X_init_99 : decode b_X_init 99 = .ok (.invokespecial 53, 3) := by decide +kernel
theorem d_X_init_102 : decode b_X_init 102 = .ok (.putfield 58, 3) := by decide +kernel
theorem d_X_init_105 : decode b_X_init 105 = .ok (.aload_n 0, 1) := by decide +kernel
theorem d_X_init_106 : decode b_X_init 106 = .ok (.new 61, 3) := by decide +kernel
theorem d_X_init_109 : decode b_X_init 109 = .ok (.dup, 1) := by decide +kernel
theorem d_X_init_110 : decode b_X_init 110 = .ok (.invokespecial 63, 3) := by decide +kernel
theorem d_X_init_113 : decode b_X_init 113 = .ok (.putfield 64, 3) := by decide +kernel
theorem d_X_init_116 : decode b_X_init 116 = .ok (.aload_n 0, 1) := by decide +kernel
theorem d_X_init_117 : decode b_X_init 117 = .ok (.new 68, 3) := by decide +kernel
theorem d_X_init_120 : decode b_X_init 120 = .ok (.dup, 1) := by decide +kernel
theorem d_X_init_121 : decode b_X_init 121 = .ok (.invokespecial 70, 3) := by decide +kernel
theorem d_X_init_124 : decode b_X_init 124 = .ok (.putfield 71, 3) := by decide +kernel
theorem d_X_init_127 : decode b_X_init 127 = .ok (.aload_n 0, 1) := by decide +kernel
theorem d_X_init_128 : decode b_X_init 128 = .ok (.new 75, 3) := by decide +kernel
theorem d_X_init_131 : decode b_X_init 131 = .ok (.dup, 1) := by decide +kernel
theorem d_X_init_132 : decode b_X_init 132 = .ok (.invokespecial 77, 3) := by decide +kernel
theorem d_X_init_135 : decode b_X_init 135 = .ok (.putfield 78, 3) := by decide +kernel
theorem d_X_init_138 : decode b_X_init 138 = .ok (.aload_n 0, 1) := by decide +kernel
theorem d_X_init_139 : decode b_X_init 139 = .ok (.new 82, 3) := by decide +kernel
theorem d_X_init_142 : decode b_X_init 142 = .ok (.dup, 1) := by decide +kernel
theorem d_X_init_143 : decode b_X_init 143 = .ok (.invokespecial 84, 3) := by decide +kernel
theorem d_X_init_146 : decode b_X_init 146 = .ok (.putfield 85, 3) := by decide +kernel
theorem d_X_init_149 : decode b_X_init 149 = .ok (.aload_n 0, 1) := by decide +kernel
theorem d_X_init_150 : decode b_X_init 150 = .ok (.bipush 6, 2) := by decide +kernel
theorem d_X_init_152 : decode b_X_init 152 = .ok (.newarray .int, 2) := by decide +kernel
theorem d_X_init_154 : decode b_X_init 154 = .ok (.putfield 89, 3) := by decide +kernel
theorem d_X_init_157 : decode b_X_init 157 = .ok (.aload_n 0, 1) := by decide +kernel
theorem d_X_init_158 : decode b_X_init 158 = .ok (.iconst 0, 1) := by decide +kernel
theorem d_X_init_159 : decode b_X_init 159 = .ok (.putfield 92, 3) := by decide +kernel
theorem d_X_init_162 : decode b_X_init 162 = .ok (.aload_n 0, 1) := by decide +kernel
theorem d_X_init_163 : decode b_X_init 163 = .ok (.iconst 0, 1) := by decide +kernel
theorem d_X_init_164 : decode b_X_init 164 = .ok (.putfield 96, 3) := by decide +kernel
theorem d_X_init_167 : decode b_X_init 167 = .ok (.aload_n 0, 1) := by decide +kernel
theorem d_X_init_168 : decode b_X_init 168 = .ok (.lconst 0, 1) := by decide +kernel
theorem d_X_init_169 : decode b_X_init 169 = .ok (.putfield 99, 3) := by decide +kernel
theorem d_X_init_172 : decode b_X_init 172 = .ok (.aload_n 0, 1) := by decide +kernel
theorem d_X_init_173 : decode b_X_init 173 = .ok (.lconst 1, 1) := by decide +kernel
theorem d_X_init_174 : decode b_X_init 174 = .ok (.putfield 103, 3) := by decide +kernel
theorem d_X_init_177 : decode b_X_init 177 = .ok (.aload_n 0, 1) := by decide +kernel
theorem d_X_init_178 : decode b_X_init 178 = .ok (.getfield 14, 3) := by decide +kernel
theorem d_X_init_181 : decode b_X_init 181 = .ok (.iconst (-1), 1) := by decide +kernel
theorem d_X_init_182 : decode b_X_init 182 = .ok (.invokestatic 106, 3) := by decide +kernel
theorem d_X_init_185 : decode b_X_init 185 = .ok (.aload_n 0, 1) := by decide +kernel
theorem d_X_init_186 : decode b_X_init 186 = .ok (.getfield 23, 3) := by decide +kernel
theorem d_X_init_189 : decode b_X_init 189 = .ok (.iconst (-1), 1) := by decide +kernel
theorem d_X_init_190 : decode b_X_init 190 = .ok (.invokestatic 106, 3) := by decide +kernel
theorem d_X_init_193 : decode b_X_init 193 = .ok (.iconst 0, 1) := by decide +kernel
theorem d_X_init_194 : decode b_X_init 194 = .ok (.istore_n 1, 1) := by decide +kernel
theorem d_X_init_195 : decode b_X_init 195 = .ok (.iload_n 1, 1) := by decide +kernel
theorem d_X_init_196 : decode b_X_init 196 = .ok (.iconst 3, 1) := by decide +kernel
theorem d_X_init_197 : decode b_X_init 197 = .ok (.if_icmp .ge 22, 3) := by decide +kernel
theorem d_X_init_200 : decode b_X_init 200 = .ok (.aload_n 0, 1) := by decide +kernel
theorem d_X_init_201 : decode b_X_init 201 = .ok (.getfield 40, 3) := by decide +kernel
theorem d_X_init_204 : decode b_X_init 204 = .ok (.iload_n 1, 1) := by decide +kernel
theorem d_X_init_205 : decode b_X_init 205 = .ok (.new 33, 3) := by decide +kernel
theorem d_X_init_208 : decode b_X_init 208 = .ok (.dup, 1) := by decide +kernel
theorem d_X_init_209 : decode b_X_init 209 = .ok (.invokespecial 35, 3) := by decide +kernel
theorem d_X_init_212 : decode b_X_init 212 = .ok (.aastore, 1) := by decide +kernel
theorem d_X_init_213 : decode b_X_init 213 = .ok (.iinc 1 1, 3) := by decide +kernel
theorem d_X_init_216 : decode b_X_init 216 = .ok (.goto (-21), 3) := by decide +kernel
theorem d_X_init_219 : decode b_X_init 219 = .ok (.return_, 1) := by decide +kernel
theorem d_X_row_0 : decode b_X_row 0 = .ok (.iload_n 1, 1) := by decide +kernel
theorem d_X_row_1 : decode b_X_row 1 = .ok (.invokestatic 112, 3) := by decide +kernel
theorem d_X_row_4 : decode b_X_row 4 = .ok (.ifCond .eq 9, 3) := by decide +kernel
theorem d_X_row_7 : decode b_X_row 7 = .ok (.iload_n 2, 1) := by decide +kernel
theorem d_X_row_8 : decode b_X_row 8 = .ok (.bipush 40, 2) := by decide +kernel
theorem d_X_row_10 : decode b_X_row 10 = .ok (.if_icmp .le 5, 3) := by decide +kernel
theorem d_X_row_13 : decode b_X_row 13 = .ok (.iconst (-1), 1) := by decide +kernel
theorem d_X_row_14 : decode b_X_row 14 = .ok (.ireturn, 1) := by decide +kernel
theorem d_X_row_15 : decode b_X_row 15 = .ok (.iload_n 2, 1) := by decide +kernel
theorem d_X_row_16 : decode b_X_row 16 = .ok (.ifCond .ge 9, 3) := by decide +kernel
theorem d_X_row_19 : decode b_X_row 19 = .ok (.aload_n 0, 1) := by decide +kernel
theorem d_X_row_20 : decode b_X_row 20 = .ok (.iconst 5, 1) := by decide +kernel
theorem d_X_row_21 : decode b_X_row 21 = .ok (.invokevirtual 116, 3) := by decide +kernel
theorem d_X_row_24 : decode b_X_row 24 = .ok (.ireturn, 1) := by decide +kernel
theorem d_X_row_25 : decode b_X_row 25 = .ok (.aload_n 0, 1) := by decide +kernel
theorem d_X_row_26 : decode b_X_row 26 = .ok (.iload_n 1, 1) := by decide +kernel
theorem d_X_row_27 : decode b_X_row 27 = .ok (.iload_n 2, 1) := by decide +kernel
theorem d_X_row_28 : decode b_X_row 28 = .ok (.invokevirtual 120, 3) := by decide +kernel
theorem d_X_row_31 : decode b_X_row 31 = .ok (.iload_n 2, 1) := by decide +kernel
theorem d_X_row_32 : decode b_X_row 32 = .ok (.ireturn, 1) := by decide +kernel
theorem d_X_lay_0 : decode b_X_lay 0 = .ok (.aload_n 0, 1) := by decide +kernel
theorem d_X_lay_1 : decode b_X_lay 1 = .ok (.iload_n 1, 1) := by decide +kernel
theorem d_X_lay_2 : decode b_X_lay 2 = .ok (.iload_n 2, 1) := by decide +kernel
theorem d_X_lay_3 : decode b_X_lay 3 = .ok (.invokevirtual 124, 3) := by decide +kernel
theorem d_X_lay_6 : decode b_X_lay 6 = .ok (.istore 4, 2) := by decide +kernel
theorem d_X_lay_8 : decode b_X_lay 8 = .ok (.iload 4, 2) := by decide +kernel
theorem d_X_lay_10 : decode b_X_lay 10 = .ok (.ifCond .eq 6, 3) := by decide +kernel
theorem d_X_lay_13 : decode b_X_lay 13 = .ok (.iload 4, 2) := by decide +kernel
theorem d_X_lay_15 : decode b_X_lay 15 = .ok (.ireturn, 1) := by decide +kernel
theorem d_X_lay_16 : decode b_X_lay 16 = .ok (.aload_n 0, 1) := by decide +kernel
theorem d_X_lay_17 : decode b_X_lay 17 = .ok (.aload_n 0, 1) := by decide +kernel
theorem d_X_lay_18 : decode b_X_lay 18 = .ok (.getfield 11, 3) := by decide +kernel
theorem d_X_lay_21 : decode b_X_lay 21 = .ok (.iload_n 1, 1) := by decide +kernel
theorem d_X_lay_22 : decode b_X_lay 22 = .ok (.aaload, 1) := by decide +kernel
theorem d_X_lay_23 : decode b_X_lay 23 = .ok (.iload_n 2, 1) := by decide +kernel
theorem d_X_lay_24 : decode b_X_lay 24 = .ok (.iaload, 1) := by decide +kernel
theorem d_X_lay_25 : decode b_X_lay 25 = .ok (.putfield 96, 3) := by decide +kernel
theorem d_X_lay_28 : decode b_X_lay 28 = .ok (.aload_n 0, 1) := by decide +kernel
theorem d_X_lay_29 : decode b_X_lay 29 = .ok (.getfield 11, 3) := by decide +kernel
theorem d_X_lay_32 : decode b_X_lay 32 = .ok (.iload_n 1, 1) := by decide +kernel
theorem d_X_lay_33 : decode b_X_lay 33 = .ok (.aaload, 1) := by decide +kernel
theorem d_X_lay_34 : decode b_X_lay 34 = .ok (.iload_n 2, 1) := by decide +kernel
theorem d_X_lay_35 : decode b_X_lay 35 = .ok (.iload_n 3, 1) := by decide +kernel
theorem d_X_lay_36 : decode b_X_lay 36 = .ok (.iastore, 1) := by decide +kernel
theorem d_X_lay_37 : decode b_X_lay 37 = .ok (.iconst 1, 1) := by decide +kernel
theorem d_X_lay_38 : decode b_X_lay 38 = .ok (.ireturn, 1) := by decide +kernel
theorem d_X_at_0 : decode b_X_at 0 = .ok (.aload_n 0, 1) := by decide +kernel
theorem d_X_at_1 : decode b_X_at 1 = .ok (.iload_n 1, 1) := by decide +kernel
theorem d_X_at_2 : decode b_X_at 2 = .ok (.iload_n 2, 1) := by decide +kernel
theorem d_X_at_3 : decode b_X_at 3 = .ok (.invokevirtual 124, 3) := by decide +kernel
theorem d_X_at_6 : decode b_X_at 6 = .ok (.istore_n 3, 1) := by decide +kernel
theorem d_X_at_7 : decode b_X_at 7 = .ok (.iload_n 3, 1) := by decide +kernel
theorem d_X_at_8 : decode b_X_at 8 = .ok (.ifCond .eq 5, 3) := by decide +kernel
theorem d_X_at_11 : decode b_X_at 11 = .ok (.iload_n 3, 1) := by decide +kernel
theorem d_X_at_12 : decode b_X_at 12 = .ok (.ireturn, 1) := by decide +kernel
theorem d_X_at_13 : decode b_X_at 13 = .ok (.aload_n 0, 1) := by decide +kernel
theorem d_X_at_14 : decode b_X_at 14 = .ok (.aload_n 0, 1) := by decide +kernel
theorem d_X_at_15 : decode b_X_at 15 = .ok (.getfield 11, 3) := by decide +kernel
theorem d_X_at_18 : decode b_X_at 18 = .ok (.iload_n 1, 1) := by decide +kernel
theorem d_X_at_19 : decode b_X_at 19 = .ok (.aaload, 1) := by decide +kernel
theorem d_X_at_20 : decode b_X_at 20 = .ok (.iload_n 2, 1) := by decide +kernel
theorem d_X_at_21 : decode b_X_at 21 = .ok (.iaload, 1) := by decide +kernel
theorem d_X_at_22 : decode b_X_at 22 = .ok (.putfield 96, 3) := by decide +kernel
theorem d_X_at_25 : decode b_X_at 25 = .ok (.iconst 1, 1) := by decide +kernel
theorem d_X_at_26 : decode b_X_at 26 = .ok (.ireturn, 1) := by decide +kernel
theorem d_X_tear_0 : decode b_X_tear 0 = .ok (.aload_n 0, 1) := by decide +kernel
theorem d_X_tear_1 : decode b_X_tear 1 = .ok (.iload_n 1, 1) := by decide +kernel
theorem d_X_tear_2 : decode b_X_tear 2 = .ok (.invokevirtual 128, 3) := by decide +kernel
theorem d_X_tear_5 : decode b_X_tear 5 = .ok (.istore_n 2, 1) := by decide +kernel
theorem d_X_tear_6 : decode b_X_tear 6 = .ok (.iload_n 2, 1) := by decide +kernel
theorem d_X_tear_7 : decode b_X_tear 7 = .ok (.ifCond .eq 5, 3) := by decide +kernel
theorem d_X_tear_10 : decode b_X_tear 10 = .ok (.iload_n 2, 1) := by decide +kernel
theorem d_X_tear_11 : decode b_X_tear 11 = .ok (.ireturn, 1) := by decide +kernel
theorem d_X_tear_12 : decode b_X_tear 12 = .ok (.aload_n 0, 1) := by decide +kernel
theorem d_X_tear_13 : decode b_X_tear 13 = .ok (.getfield 14, 3) := by decide +kernel
theorem d_X_tear_16 : decode b_X_tear 16 = .ok (.iload_n 1, 1) := by decide +kernel
theorem d_X_tear_17 : decode b_X_tear 17 = .ok (.iconst (-1), 1) := by decide +kernel
theorem d_X_tear_18 : decode b_X_tear 18 = .ok (.iastore, 1) := by decide +kernel
theorem d_X_tear_19 : decode b_X_tear 19 = .ok (.iconst 1, 1) := by decide +kernel
theorem d_X_tear_20 : decode b_X_tear 20 = .ok (.ireturn, 1) := by decide +kernel
theorem d_X_copy_0 : decode b_X_copy 0 = .ok (.iload_n 1, 1) := by decide +kernel
theorem d_X_copy_1 : decode b_X_copy 1 = .ok (.invokestatic 112, 3) := by decide +kernel
theorem d_X_copy_4 : decode b_X_copy 4 = .ok (.ifCond .eq 10, 3) := by decide +kernel
theorem d_X_copy_7 : decode b_X_copy 7 = .ok (.iload_n 3, 1) := by decide +kernel
theorem d_X_copy_8 : decode b_X_copy 8 = .ok (.invokestatic 112, 3) := by decide +kernel
theorem d_X_copy_11 : decode b_X_copy 11 = .ok (.ifCond .ne 5, 3) := by decide +kernel
theorem d_X_copy_14 : decode b_X_copy 14 = .ok (.iconst (-1), 1) := by decide +kernel
theorem d_X_copy_15 : decode b_X_copy 15 = .ok (.ireturn, 1) := by decide +kernel
theorem d_X_copy_16 : decode b_X_copy 16 = .ok (.iload 5, 2) := by decide +kernel
theorem d_X_copy_18 : decode b_X_copy 18 = .ok (.ifCond .ge 9, 3) := by decide +kernel
theorem d_X_copy_21 : decode b_X_copy 21 = .ok (.aload_n 0, 1) := by decide +kernel
theorem d_X_copy_22 : decode b_X_copy 22 = .ok (.iconst 5, 1) := by decide +kernel
theorem d_X_copy_23 : decode b_X_copy 23 = .ok (.invokevirtual 116, 3) := by decide +kernel
theorem d_X_copy_26 : decode b_X_copy 26 = .ok (.ireturn, 1) := by decide +kernel
theorem d_X_copy_27 : decode b_X_copy 27 = .ok (.aload_n 0, 1) := by decide +kernel
theorem d_X_copy_28 : decode b_X_copy 28 = .ok (.getfield 14, 3) := by decide +kernel
theorem d_X_copy_31 : decode b_X_copy 31 = .ok (.iload_n 1, 1) := by decide +kernel
theorem d_X_copy_32 : decode b_X_copy 32 = .ok (.iaload, 1) := by decide +kernel
theorem d_X_copy_33 : decode b_X_copy 33 = .ok (.ifCond .lt 12, 3) := by decide +kernel
theorem d_X_copy_36 : decode b_X_copy 36 = .ok (.aload_n 0, 1) := by decide +kernel
theorem d_X_copy_37 : decode b_X_copy 37 = .ok (.getfield 14, 3) := by decide +kernel
theorem d_X_copy_40 : decode b_X_copy 40 = .ok (.iload_n 3, 1) := by decide +kernel
theorem d_X_copy_41 : decode b_X_copy 41 = .ok (.iaload, 1) := by decide +kernel
theorem d_X_copy_42 : decode b_X_copy 42 = .ok (.ifCond .ge 9, 3) := by decide +kernel
theorem d_X_copy_45 : decode b_X_copy 45 = .ok (.aload_n 0, 1) := by decide +kernel
theorem d_X_copy_46 : decode b_X_copy 46 = .ok (.iconst 1, 1) := by decide +kernel
theorem d_X_copy_47 : decode b_X_copy 47 = .ok (.invokevirtual 116, 3) := by decide +kernel
theorem d_X_copy_50 : decode b_X_copy 50 = .ok (.ireturn, 1) := by decide +kernel
theorem d_X_copy_51 : decode b_X_copy 51 = .ok (.aload_n 0, 1) := by decide +kernel
theorem d_X_copy_52 : decode b_X_copy 52 = .ok (.getfield 14, 3) := by decide +kernel
theorem d_X_copy_55 : decode b_X_copy 55 = .ok (.iload_n 1, 1) := by decide +kernel
theorem d_X_copy_56 : decode b_X_copy 56 = .ok (.iaload, 1) := by decide +kernel
theorem d_X_copy_57 : decode b_X_copy 57 = .ok (.iload_n 2, 1) := by decide +kernel
theorem d_X_copy_58 : decode b_X_copy 58 = .ok (.iload 5, 2) := by decide +kernel
theorem d_X_copy_60 : decode b_X_copy 60 = .ok (.invokestatic 131, 3) := by decide +kernel
theorem d_X_copy_63 : decode b_X_copy 63 = .ok (.ifCond .eq 19, 3) := by decide +kernel
theorem d_X_copy_66 : decode b_X_copy 66 = .ok (.aload_n 0, 1) := by decide +kernel
theorem d_X_copy_67 : decode b_X_copy 67 = .ok (.getfield 14, 3) := by decide +kernel
theorem d_X_copy_70 : decode b_X_copy 70 = .ok (.iload_n 3, 1) := by decide +kernel
theorem d_X_copy_71 : decode b_X_copy 71 = .ok (.iaload, 1) := by decide +kernel
theorem d_X_copy_72 : decode b_X_copy 72 = .ok (.iload 4, 2) := by decide +kernel
theorem d_X_copy_74 : decode b_X_copy 74 = .ok (.iload 5, 2) := by decide +kernel
theorem d_X_copy_76 : decode b_X_copy 76 = .ok (.invokestatic 131, 3) := by decide +kernel
theorem d_X_copy_79 : decode b_X_copy 79 = .ok (.ifCond .ne 9, 3) := by decide +kernel
theorem d_X_copy_82 : decode b_X_copy 82 = .ok (.aload_n 0, 1) := by decide +kernel
theorem d_X_copy_83 : decode b_X_copy 83 = .ok (.iconst 2, 1) := by decide +kernel
theorem d_X_copy_84 : decode b_X_copy 84 = .ok (.invokevirtual 116, 3) := by decide +kernel
theorem d_X_copy_87 : decode b_X_copy 87 = .ok (.ireturn, 1) := by decide +kernel
theorem d_X_copy_88 : decode b_X_copy 88 = .ok (.aload_n 0, 1) := by decide +kernel
theorem d_X_copy_89 : decode b_X_copy 89 = .ok (.getfield 11, 3) := by decide +kernel
theorem d_X_copy_92 : decode b_X_copy 92 = .ok (.iload_n 1, 1) := by decide +kernel
theorem d_X_copy_93 : decode b_X_copy 93 = .ok (.aaload, 1) := by decide +kernel
theorem d_X_copy_94 : decode b_X_copy 94 = .ok (.iload_n 2, 1) := by decide +kernel
theorem d_X_copy_95 : decode b_X_copy 95 = .ok (.aload_n 0, 1) := by decide +kernel
theorem d_X_copy_96 : decode b_X_copy 96 = .ok (.getfield 11, 3) := by decide +kernel
theorem d_X_copy_99 : decode b_X_copy 99 = .ok (.iload_n 3, 1) := by decide +kernel
theorem d_X_copy_100 : decode b_X_copy 100 = .ok (.aaload, 1) := by decide +kernel
theorem d_X_copy_101 : decode b_X_copy 101 = .ok (.iload 4, 2) := by decide +kernel
theorem d_X_copy_103 : decode b_X_copy 103 = .ok (.iload 5, 2) := by decide +kernel
theorem d_X_copy_105 : decode b_X_copy 105 = .ok (.invokestatic 135, 3) := by decide +kernel
theorem d_X_copy_108 : decode b_X_copy 108 = .ok (.iconst 1, 1) := by decide +kernel
theorem d_X_copy_109 : decode b_X_copy 109 = .ok (.ireturn, 1) := by decide +kernel
theorem d_X_mean_0 : decode b_X_mean 0 = .ok (.aload_n 0, 1) := by decide +kernel
theorem d_X_mean_1 : decode b_X_mean 1 = .ok (.iload_n 1, 1) := by decide +kernel
theorem d_X_mean_2 : decode b_X_mean 2 = .ok (.invokevirtual 128, 3) := by decide +kernel
theorem d_X_mean_5 : decode b_X_mean 5 = .ok (.istore_n 2, 1) := by decide +kernel
theorem d_X_mean_6 : decode b_X_mean 6 = .ok (.iload_n 2, 1) := by decide +kernel
theorem d_X_mean_7 : decode b_X_mean 7 = .ok (.ifCond .eq 5, 3) := by decide +kernel
theorem d_X_mean_10 : decode b_X_mean 10 = .ok (.iload_n 2, 1) := by decide +kernel
theorem d_X_mean_11 : decode b_X_mean 11 = .ok (.ireturn, 1) := by decide +kernel
theorem d_X_mean_12 : decode b_X_mean 12 = .ok (.aload_n 0, 1) := by decide +kernel
theorem d_X_mean_13 : decode b_X_mean 13 = .ok (.getfield 14, 3) := by decide +kernel
theorem d_X_mean_16 : decode b_X_mean 16 = .ok (.iload_n 1, 1) := by decide +kernel
theorem d_X_mean_17 : decode b_X_mean 17 = .ok (.iaload, 1) := by decide +kernel
theorem d_X_mean_18 : decode b_X_mean 18 = .ok (.istore_n 3, 1) := by decide +kernel
theorem d_X_mean_19 : decode b_X_mean 19 = .ok (.iload_n 3, 1) := by decide +kernel
theorem d_X_mean_20 : decode b_X_mean 20 = .ok (.ifCond .ne 9, 3) := by decide +kernel
theorem d_X_mean_23 : decode b_X_mean 23 = .ok (.aload_n 0, 1) := by decide +kernel
theorem d_X_mean_24 : decode b_X_mean 24 = .ok (.iconst 4, 1) := by decide +kernel
theorem d_X_mean_25 : decode b_X_mean 25 = .ok (.invokevirtual 116, 3) := by decide +kernel
theorem d_X_mean_28 : decode b_X_mean 28 = .ok (.ireturn, 1) := by decide +kernel
theorem d_X_mean_29 : decode b_X_mean 29 = .ok (.lconst 0, 1) := by decide +kernel
theorem d_X_mean_30 : decode b_X_mean 30 = .ok (.lstore 4, 2) := by decide +kernel
theorem d_X_mean_32 : decode b_X_mean 32 = .ok (.iconst 0, 1) := by decide +kernel
theorem d_X_mean_33 : decode b_X_mean 33 = .ok (.istore 6, 2) := by decide +kernel
theorem d_X_mean_35 : decode b_X_mean 35 = .ok (.iload 6, 2) := by decide +kernel
theorem d_X_mean_37 : decode b_X_mean 37 = .ok (.iload_n 3, 1) := by decide +kernel
theorem d_X_mean_38 : decode b_X_mean 38 = .ok (.if_icmp .ge 24, 3) := by decide +kernel
theorem d_X_mean_41 : decode b_X_mean 41 = .ok (.lload 4, 2) := by decide +kernel
theorem d_X_mean_43 : decode b_X_mean 43 = .ok (.aload_n 0, 1) := by decide +kernel
theorem d_X_mean_44 : decode b_X_mean 44 = .ok (.getfield 11, 3) := by decide +kernel
theorem d_X_mean_47 : decode b_X_mean 47 = .ok (.iload_n 1, 1) := by decide +kernel
theorem d_X_mean_48 : decode b_X_mean 48 = .ok (.aaload, 1) := by decide +kernel
theorem d_X_mean_49 : decode b_X_mean 49 = .ok (.iload 6, 2) := by decide +kernel
theorem d_X_mean_51 : decode b_X_mean 51 = .ok (.iaload, 1) := by decide +kernel
theorem d_X_mean_52 : decode b_X_mean 52 = .ok (.i2l, 1) := by decide +kernel
theorem d_X_mean_53 : decode b_X_mean 53 = .ok (.ladd, 1) := by decide +kernel
theorem d_X_mean_54 : decode b_X_mean 54 = .ok (.lstore 4, 2) := by decide +kernel
theorem d_X_mean_56 : decode b_X_mean 56 = .ok (.iinc 6 1, 3) := by decide +kernel
theorem d_X_mean_59 : decode b_X_mean 59 = .ok (.goto (-24), 3) := by decide +kernel
theorem d_X_mean_62 : decode b_X_mean 62 = .ok (.aload_n 0, 1) := by decide +kernel
theorem d_X_mean_63 : decode b_X_mean 63 = .ok (.lload 4, 2) := by decide +kernel
theorem d_X_mean_65 : decode b_X_mean 65 = .ok (.iload_n 3, 1) := by decide +kernel
theorem d_X_mean_66 : decode b_X_mean 66 = .ok (.i2l, 1) := by decide +kernel
theorem d_X_mean_67 : decode b_X_mean 67 = .ok (.ldiv, 1) := by decide +kernel
theorem d_X_mean_68 : decode b_X_mean 68 = .ok (.l2i, 1) := by decide +kernel
theorem d_X_mean_69 : decode b_X_mean 69 = .ok (.putfield 96, 3) := by decide +kernel
theorem d_X_mean_72 : decode b_X_mean 72 = .ok (.iconst 1, 1) := by decide +kernel
theorem d_X_mean_73 : decode b_X_mean 73 = .ok (.ireturn, 1) := by decide +kernel
theorem d_X_text_0 : decode b_X_text 0 = .ok (.iload_n 1, 1) := by decide +kernel
theorem d_X_text_1 : decode b_X_text 1 = .ok (.invokestatic 141, 3) := by decide +kernel
theorem d_X_text_4 : decode b_X_text 4 = .ok (.ifCond .eq 9, 3) := by decide +kernel
theorem d_X_text_7 : decode b_X_text 7 = .ok (.iload_n 2, 1) := by decide +kernel
theorem d_X_text_8 : decode b_X_text 8 = .ok (.bipush 80, 2) := by decide +kernel
theorem d_X_text_10 : decode b_X_text 10 = .ok (.if_icmp .le 5, 3) := by decide +kernel
theorem d_X_text_13 : decode b_X_text 13 = .ok (.iconst (-1), 1) := by decide +kernel
theorem d_X_text_14 : decode b_X_text 14 = .ok (.ireturn, 1) := by decide +kernel
theorem d_X_text_15 : decode b_X_text 15 = .ok (.iload_n 2, 1) := by decide +kernel
theorem d_X_text_16 : decode b_X_text 16 = .ok (.ifCond .ge 9, 3) := by decide +kernel
theorem d_X_text_19 : decode b_X_text 19 = .ok (.aload_n 0, 1) := by decide +kernel
theorem d_X_text_20 : decode b_X_text 20 = .ok (.iconst 5, 1) := by decide +kernel
theorem d_X_text_21 : decode b_X_text 21 = .ok (.invokevirtual 116, 3) := by decide +kernel
theorem d_X_text_24 : decode b_X_text 24 = .ok (.ireturn, 1) := by decide +kernel
theorem d_X_text_25 : decode b_X_text 25 = .ok (.aload_n 0, 1) := by decide +kernel
theorem d_X_text_26 : decode b_X_text 26 = .ok (.getfield 23, 3) := by decide +kernel
theorem d_X_text_29 : decode b_X_text 29 = .ok (.iload_n 1, 1) := by decide +kernel
theorem d_X_text_30 : decode b_X_text 30 = .ok (.iload_n 2, 1) := by decide +kernel
theorem d_X_text_31 : decode b_X_text 31 = .ok (.iastore, 1) := by decide +kernel
theorem d_X_text_32 : decode b_X_text 32 = .ok (.aload_n 0, 1) := by decide +kernel
theorem d_X_text_33 : decode b_X_text 33 = .ok (.getfield 20, 3) := by decide +kernel
theorem d_X_text_36 : decode b_X_text 36 = .ok (.iload_n 1, 1) := by decide +kernel
theorem d_X_text_37 : decode b_X_text 37 = .ok (.aaload, 1) := by decide +kernel
theorem d_X_text_38 : decode b_X_text 38 = .ok (.bipush 32, 2) := by decide +kernel
theorem d_X_text_40 : decode b_X_text 40 = .ok (.invokestatic 144, 3) := by decide +kernel
theorem d_X_text_43 : decode b_X_text 43 = .ok (.iload_n 2, 1) := by decide +kernel
theorem d_X_text_44 : decode b_X_text 44 = .ok (.ireturn, 1) := by decide +kernel
theorem d_X_put_0 : decode b_X_put 0 = .ok (.aload_n 0, 1) := by decide +kernel
theorem d_X_put_1 : decode b_X_put 1 = .ok (.iload_n 1, 1) := by decide +kernel
theorem d_X_put_2 : decode b_X_put 2 = .ok (.invokevirtual 147, 3) := by decide +kernel
theorem d_X_put_5 : decode b_X_put 5 = .ok (.istore 4, 2) := by decide +kernel
theorem d_X_put_7 : decode b_X_put 7 = .ok (.iload 4, 2) := by decide +kernel
theorem d_X_put_9 : decode b_X_put 9 = .ok (.ifCond .eq 6, 3) := by decide +kernel
theorem d_X_put_12 : decode b_X_put 12 = .ok (.iload 4, 2) := by decide +kernel
theorem d_X_put_14 : decode b_X_put 14 = .ok (.ireturn, 1) := by decide +kernel
theorem d_X_put_15 : decode b_X_put 15 = .ok (.iload_n 2, 1) := by decide +kernel
theorem d_X_put_16 : decode b_X_put 16 = .ok (.ifCond .lt 13, 3) := by decide +kernel
theorem d_X_put_19 : decode b_X_put 19 = .ok (.iload_n 2, 1) := by decide +kernel
theorem d_X_put_20 : decode b_X_put 20 = .ok (.aload_n 0, 1) := by decide +kernel
theorem d_X_put_21 : decode b_X_put 21 = .ok (.getfield 23, 3) := by decide +kernel
theorem d_X_put_24 : decode b_X_put 24 = .ok (.iload_n 1, 1) := by decide +kernel
theorem d_X_put_25 : decode b_X_put 25 = .ok (.iaload, 1) := by decide +kernel
theorem d_X_put_26 : decode b_X_put 26 = .ok (.if_icmp .lt 9, 3) := by decide +kernel
theorem d_X_put_29 : decode b_X_put 29 = .ok (.aload_n 0, 1) := by decide +kernel
theorem d_X_put_30 : decode b_X_put 30 = .ok (.iconst 2, 1) := by decide +kernel
theorem d_X_put_31 : decode b_X_put 31 = .ok (.invokevirtual 116, 3) := by decide +kernel
theorem d_X_put_34 : decode b_X_put 34 = .ok (.ireturn, 1) := by decide +kernel
theorem d_X_put_35 : decode b_X_put 35 = .ok (.aload_n 0, 1) := by decide +kernel
theorem d_X_put_36 : decode b_X_put 36 = .ok (.getfield 20, 3) := by decide +kernel
theorem d_X_put_39 : decode b_X_put 39 = .ok (.iload_n 1, 1) := by decide +kernel
theorem d_X_put_40 : decode b_X_put 40 = .ok (.aaload, 1) := by decide +kernel
theorem d_X_put_41 : decode b_X_put 41 = .ok (.iload_n 2, 1) := by decide +kernel
theorem d_X_put_42 : decode b_X_put 42 = .ok (.baload, 1) := by decide +kernel
theorem d_X_put_43 : decode b_X_put 43 = .ok (.istore 5, 2) := by decide +kernel
theorem d_X_put_45 : decode b_X_put 45 = .ok (.aload_n 0, 1) := by decide +kernel
theorem d_X_put_46 : decode b_X_put 46 = .ok (.getfield 20, 3) := by decide +kernel
theorem d_X_put_49 : decode b_X_put 49 = .ok (.iload_n 1, 1) := by decide +kernel
theorem d_X_put_50 : decode b_X_put 50 = .ok (.aaload, 1) := by decide +kernel
theorem d_X_put_51 : decode b_X_put 51 = .ok (.iload_n 2, 1) := by decide +kernel
theorem d_X_put_52 : decode b_X_put 52 = .ok (.iload_n 3, 1) := by decide +kernel
theorem d_X_put_53 : decode b_X_put 53 = .ok (.i2b, 1) := by decide +kernel
theorem d_X_put_54 : decode b_X_put 54 = .ok (.bastore, 1) := by decide +kernel
theorem d_X_put_55 : decode b_X_put 55 = .ok (.iload 5, 2) := by decide +kernel
theorem d_X_put_57 : decode b_X_put 57 = .ok (.sipush 1000, 3) := by decide +kernel
theorem d_X_put_60 : decode b_X_put 60 = .ok (.iadd, 1) := by decide +kernel
theorem d_X_put_61 : decode b_X_put 61 = .ok (.ireturn, 1) := by decide +kernel
theorem d_X_fault_0 : decode b_X_fault 0 = .ok (.aload_n 0, 1) := by decide +kernel
theorem d_X_fault_1 : decode b_X_fault 1 = .ok (.iload_n 1, 1) := by decide +kernel
theorem d_X_fault_2 : decode b_X_fault 2 = .ok (.invokevirtual 147, 3) := by decide +kernel
theorem d_X_fault_5 : decode b_X_fault 5 = .ok (.istore_n 2, 1) := by decide +kernel
theorem d_X_fault_6 : decode b_X_fault 6 = .ok (.iload_n 2, 1) := by decide +kernel
theorem d_X_fault_7 : decode b_X_fault 7 = .ok (.ifCond .eq 5, 3) := by decide +kernel
theorem d_X_fault_10 : decode b_X_fault 10 = .ok (.iload_n 2, 1) := by decide +kernel
theorem d_X_fault_11 : decode b_X_fault 11 = .ok (.ireturn, 1) := by decide +kernel
theorem d_X_fault_12 : decode b_X_fault 12 = .ok (.aload_n 0, 1) := by decide +kernel
theorem d_X_fault_13 : decode b_X_fault 13 = .ok (.getfield 29, 3) := by decide +kernel
theorem d_X_fault_16 : decode b_X_fault 16 = .ok (.aload_n 0, 1) := by decide +kernel
theorem d_X_fault_17 : decode b_X_fault 17 = .ok (.getfield 20, 3) := by decide +kernel
theorem d_X_fault_20 : decode b_X_fault 20 = .ok (.iload_n 1, 1) := by decide +kernel
theorem d_X_fault_21 : decode b_X_fault 21 = .ok (.aaload, 1) := by decide +kernel
theorem d_X_fault_22 : decode b_X_fault 22 = .ok (.aload_n 0, 1) := by decide +kernel
theorem d_X_fault_23 : decode b_X_fault 23 = .ok (.getfield 23, 3) := by decide +kernel
theorem d_X_fault_26 : decode b_X_fault 26 = .ok (.iload_n 1, 1) := by decide +kernel
theorem d_X_fault_27 : decode b_X_fault 27 = .ok (.iaload, 1) := by decide +kernel
theorem d_X_fault_28 : decode b_X_fault 28 = .ok (.invokevirtual 150, 3) := by decide +kernel
theorem d_X_fault_31 : decode b_X_fault 31 = .ok (.ireturn, 1) := by decide +kernel
theorem d_X_town_0 : decode b_X_town 0 = .ok (.aload_n 0, 1) := by decide +kernel
theorem d_X_town_1 : decode b_X_town 1 = .ok (.iload_n 1, 1) := by decide +kernel
theorem d_X_town_2 : decode b_X_town 2 = .ok (.invokevirtual 147, 3) := by decide +kernel
theorem d_X_town_5 : decode b_X_town 5 = .ok (.istore_n 2, 1) := by decide +kernel
theorem d_X_town_6 : decode b_X_town 6 = .ok (.iload_n 2, 1) := by decide +kernel
theorem d_X_town_7 : decode b_X_town 7 = .ok (.ifCond .eq 5, 3) := by decide +kernel
theorem d_X_town_10 : decode b_X_town 10 = .ok (.iload_n 2, 1) := by decide +kernel
theorem d_X_town_11 : decode b_X_town 11 = .ok (.ireturn, 1) := by decide +kernel
theorem d_X_town_12 : decode b_X_town 12 = .ok (.aload_n 0, 1) := by decide +kernel
theorem d_X_town_13 : decode b_X_town 13 = .ok (.getfield 29, 3) := by decide +kernel
theorem d_X_town_16 : decode b_X_town 16 = .ok (.aload_n 0, 1) := by decide +kernel
theorem d_X_town_17 : decode b_X_town 17 = .ok (.getfield 20, 3) := by decide +kernel
theorem d_X_town_20 : decode b_X_town 20 = .ok (.iload_n 1, 1) := by decide +kernel
theorem d_X_town_21 : decode b_X_town 21 = .ok (.aaload, 1) := by decide +kernel
theorem d_X_town_22 : decode b_X_town 22 = .ok (.aload_n 0, 1) := by decide +kernel
theorem d_X_town_23 : decode b_X_town 23 = .ok (.getfield 23, 3) := by decide +kernel
theorem d_X_town_26 : decode b_X_town 26 = .ok (.iload_n 1, 1) := by decide +kernel
theorem d_X_town_27 : decode b_X_town 27 = .ok (.iaload, 1) := by decide +kernel
theorem d_X_town_28 : decode b_X_town 28 = .ok (.invokevirtual 150, 3) := by decide +kernel
theorem d_X_town_31 : decode b_X_town 31 = .ok (.bipush (-9), 2) := by decide +kernel
theorem d_X_town_33 : decode b_X_town 33 = .ok (.if_icmp .eq 6, 3) := by decide +kernel
theorem d_X_town_36 : decode b_X_town 36 = .ok (.bipush (-4), 2) := by decide +kernel
theorem d_X_town_38 : decode b_X_town 38 = .ok (.ireturn, 1) := by decide +kernel
theorem d_X_town_39 : decode b_X_town 39 = .ok (.aload_n 0, 1) := by decide +kernel
theorem d_X_town_40 : decode b_X_town 40 = .ok (.getfield 36, 3) := by decide +kernel
theorem d_X_town_43 : decode b_X_town 43 = .ok (.aload_n 0, 1) := by decide +kernel
theorem d_X_town_44 : decode b_X_town 44 = .ok (.getfield 29, 3) := by decide +kernel
theorem d_X_town_47 : decode b_X_town 47 = .ok (.aload_n 0, 1) := by decide +kernel
theorem d_X_town_48 : decode b_X_town 48 = .ok (.getfield 47, 3) := by decide +kernel
theorem d_X_town_51 : decode b_X_town 51 = .ok (.invokevirtual 154, 3) := by decide +kernel
theorem d_X_town_54 : decode b_X_town 54 = .ok (.iconst 0, 1) := by decide +kernel
theorem d_X_town_55 : decode b_X_town 55 = .ok (.istore_n 3, 1) := by decide +kernel
theorem d_X_town_56 : decode b_X_town 56 = .ok (.iload_n 3, 1) := by decide +kernel
theorem d_X_town_57 : decode b_X_town 57 = .ok (.iconst 3, 1) := by decide +kernel
theorem d_X_town_58 : decode b_X_town 58 = .ok (.if_icmp .ge 19, 3) := by decide +kernel
theorem d_X_town_61 : decode b_X_town 61 = .ok (.aload_n 0, 1) := by decide +kernel
theorem d_X_town_62 : decode b_X_town 62 = .ok (.getfield 40, 3) := by decide +kernel
theorem d_X_town_65 : decode b_X_town 65 = .ok (.iload_n 3, 1) := by decide +kernel
theorem d_X_town_66 : decode b_X_town 66 = .ok (.aaload, 1) := by decide +kernel
theorem d_X_town_67 : decode b_X_town 67 = .ok (.iconst 0, 1) := by decide +kernel
theorem d_X_town_68 : decode b_X_town 68 = .ok (.putfield 158, 3) := by decide +kernel
theorem d_X_town_71 : decode b_X_town 71 = .ok (.iinc 3 1, 3) := by decide +kernel
theorem d_X_town_74 : decode b_X_town 74 = .ok (.goto (-18), 3) := by decide +kernel
theorem d_X_town_77 : decode b_X_town 77 = .ok (.aload_n 0, 1) := by decide +kernel
theorem d_X_town_78 : decode b_X_town 78 = .ok (.getfield 36, 3) := by decide +kernel
theorem d_X_town_81 : decode b_X_town 81 = .ok (.getfield 158, 3) := by decide +kernel
theorem d_X_town_84 : decode b_X_town 84 = .ok (.ireturn, 1) := by decide +kernel

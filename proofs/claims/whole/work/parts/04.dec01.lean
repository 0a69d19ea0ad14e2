theorem d_X_walker_0 : decode b_X_walker 0 = .ok (.aload_n 0, 1) := by decide +kernel
theorem d_X_walker_1 : decode b_X_walker 1 = .ok (.iload_n 1, 1) := by decide +kernel
theorem d_X_walker_2 : decode b_X_walker 2 = .ok (.invokevirtual 161, 3) := by decide +kernel
theorem d_X_walker_5 : decode b_X_walker 5 = .ok (.ifCond .eq 12, 3) := by decide +kernel
theorem d_X_walker_8 : decode b_X_walker 8 = .ok (.iload_n 2, 1) := by decide +kernel
theorem d_X_walker_9 : decode b_X_walker 9 = .ok (.ifCond .lt 8, 3) := by decide +kernel
theorem d_X_walker_12 : decode b_X_walker 12 = .ok (.iload_n 2, 1) := by decide +kernel
theorem d_X_walker_13 : decode b_X_walker 13 = .ok (.iconst 4, 1) := by decide +kernel
theorem d_X_walker_14 : decode b_X_walker 14 = .ok (.if_icmp .le 5, 3) := by decide +kernel
theorem d_X_walker_17 : decode b_X_walker 17 = .ok (.iconst (-1), 1) := by decide +kernel
theorem d_X_walker_18 : decode b_X_walker 18 = .ok (.ireturn, 1) := by decide +kernel
theorem d_X_walker_19 : decode b_X_walker 19 = .ok (.aload_n 0, 1) := by decide +kernel
theorem d_X_walker_20 : decode b_X_walker 20 = .ok (.aload_n 0, 1) := by decide +kernel
theorem d_X_walker_21 : decode b_X_walker 21 = .ok (.iload_n 1, 1) := by decide +kernel
theorem d_X_walker_22 : decode b_X_walker 22 = .ok (.iload_n 2, 1) := by decide +kernel
theorem d_X_walker_23 : decode b_X_walker 23 = .ok (.invokevirtual 164, 3) := by decide +kernel
theorem d_X_walker_26 : decode b_X_walker 26 = .ok (.putfield 96, 3) := by decide +kernel
theorem d_X_walker_29 : decode b_X_walker 29 = .ok (.iconst 1, 1) := by decide +kernel
theorem d_X_walker_30 : decode b_X_walker 30 = .ok (.ireturn, 1) := by decide +kernel
theorem d_X_mark_0 : decode b_X_mark 0 = .ok (.aload_n 0, 1) := by decide +kernel
theorem d_X_mark_1 : decode b_X_mark 1 = .ok (.iload_n 1, 1) := by decide +kernel
theorem d_X_mark_2 : decode b_X_mark 2 = .ok (.invokevirtual 161, 3) := by decide +kernel
theorem d_X_mark_5 : decode b_X_mark 5 = .ok (.ifCond .eq 12, 3) := by decide +kernel
theorem d_X_mark_8 : decode b_X_mark 8 = .ok (.iload_n 2, 1) := by decide +kernel
theorem d_X_mark_9 : decode b_X_mark 9 = .ok (.ifCond .le 8, 3) := by decide +kernel
theorem d_X_mark_12 : decode b_X_mark 12 = .ok (.iload_n 2, 1) := by decide +kernel
theorem d_X_mark_13 : decode b_X_mark 13 = .ok (.iconst 5, 1) := by decide +kernel
theorem d_X_mark_14 : decode b_X_mark 14 = .ok (.if_icmp .le 5, 3) := by decide +kernel
theorem d_X_mark_17 : decode b_X_mark 17 = .ok (.iconst (-1), 1) := by decide +kernel
theorem d_X_mark_18 : decode b_X_mark 18 = .ok (.ireturn, 1) := by decide +kernel
theorem d_X_mark_19 : decode b_X_mark 19 = .ok (.aload_n 0, 1) := by decide +kernel
theorem d_X_mark_20 : decode b_X_mark 20 = .ok (.getfield 36, 3) := by decide +kernel
theorem d_X_mark_23 : decode b_X_mark 23 = .ok (.iload_n 1, 1) := by decide +kernel
theorem d_X_mark_24 : decode b_X_mark 24 = .ok (.aload_n 0, 1) := by decide +kernel
theorem d_X_mark_25 : decode b_X_mark 25 = .ok (.getfield 54, 3) := by decide +kernel
theorem d_X_mark_28 : decode b_X_mark 28 = .ok (.invokevirtual 167, 3) := by decide +kernel
theorem d_X_mark_31 : decode b_X_mark 31 = .ok (.aload_n 0, 1) := by decide +kernel
theorem d_X_mark_32 : decode b_X_mark 32 = .ok (.getfield 54, 3) := by decide +kernel
theorem d_X_mark_35 : decode b_X_mark 35 = .ok (.iload_n 2, 1) := by decide +kernel
theorem d_X_mark_36 : decode b_X_mark 36 = .ok (.invokevirtual 171, 3) := by decide +kernel
theorem d_X_mark_39 : decode b_X_mark 39 = .ok (.ifCond .ne 9, 3) := by decide +kernel
theorem d_X_mark_42 : decode b_X_mark 42 = .ok (.aload_n 0, 1) := by decide +kernel
theorem d_X_mark_43 : decode b_X_mark 43 = .ok (.iconst 3, 1) := by decide +kernel
theorem d_X_mark_44 : decode b_X_mark 44 = .ok (.invokevirtual 116, 3) := by decide +kernel
theorem d_X_mark_47 : decode b_X_mark 47 = .ok (.ireturn, 1) := by decide +kernel
theorem d_X_mark_48 : decode b_X_mark 48 = .ok (.iload_n 2, 1) := by decide +kernel
theorem d_X_mark_49 : decode b_X_mark 49 = .ok (.tableswitch 113 1 4 #[31, 46, 55, 80], 31) := by decide +kernel
theorem d_X_mark_80 : decode b_X_mark 80 = .ok (.aload_n 0, 1) := by decide +kernel
theorem d_X_mark_81 : decode b_X_mark 81 = .ok (.getfield 54, 3) := by decide +kernel
theorem d_X_mark_84 : decode b_X_mark 84 = .ok (.invokevirtual 174, 3) := by decide +kernel
theorem d_X_mark_87 : decode b_X_mark 87 = .ok (.aload_n 0, 1) := by decide +kernel
theorem d_X_mark_88 : decode b_X_mark 88 = .ok (.getfield 54, 3) := by decide +kernel
theorem d_X_mark_91 : decode b_X_mark 91 = .ok (.getfield 177, 3) := by decide +kernel
theorem d_X_mark_94 : decode b_X_mark 94 = .ok (.ireturn, 1) := by decide +kernel
theorem d_X_mark_95 : decode b_X_mark 95 = .ok (.aload_n 0, 1) := by decide +kernel
theorem d_X_mark_96 : decode b_X_mark 96 = .ok (.aload_n 0, 1) := by decide +kernel
theorem d_X_mark_97 : decode b_X_mark 97 = .ok (.getfield 54, 3) := by decide +kernel
theorem d_X_mark_100 : decode b_X_mark 100 = .ok (.invokevirtual 180, 3) := by decide +kernel
theorem d_X_mark_103 : decode b_X_mark 103 = .ok (.ireturn, 1) := by decide +kernel
theorem d_X_mark_104 : decode b_X_mark 104 = .ok (.aload_n 0, 1) := by decide +kernel
theorem d_X_mark_105 : decode b_X_mark 105 = .ok (.getfield 47, 3) := by decide +kernel
theorem d_X_mark_108 : decode b_X_mark 108 = .ok (.aload_n 0, 1) := by decide +kernel
theorem d_X_mark_109 : decode b_X_mark 109 = .ok (.getfield 54, 3) := by decide +kernel
theorem d_X_mark_112 : decode b_X_mark 112 = .ok (.getfield 184, 3) := by decide +kernel
theorem d_X_mark_115 : decode b_X_mark 115 = .ok (.invokevirtual 187, 3) := by decide +kernel
theorem d_X_mark_118 : decode b_X_mark 118 = .ok (.aload_n 0, 1) := by decide +kernel
theorem d_X_mark_119 : decode b_X_mark 119 = .ok (.getfield 47, 3) := by decide +kernel
theorem d_X_mark_122 : decode b_X_mark 122 = .ok (.invokevirtual 191, 3) := by decide +kernel
theorem d_X_mark_125 : decode b_X_mark 125 = .ok (.invokestatic 195, 3) := by decide +kernel
theorem d_X_mark_128 : decode b_X_mark 128 = .ok (.ireturn, 1) := by decide +kernel
theorem d_X_mark_129 : decode b_X_mark 129 = .ok (.aload_n 0, 1) := by decide +kernel
theorem d_X_mark_130 : decode b_X_mark 130 = .ok (.getfield 54, 3) := by decide +kernel
theorem d_X_mark_133 : decode b_X_mark 133 = .ok (.aload_n 0, 1) := by decide +kernel
theorem d_X_mark_134 : decode b_X_mark 134 = .ok (.getfield 47, 3) := by decide +kernel
theorem d_X_mark_137 : decode b_X_mark 137 = .ok (.invokevirtual 200, 3) := by decide +kernel
theorem d_X_mark_140 : decode b_X_mark 140 = .ok (.aload_n 0, 1) := by decide +kernel
theorem d_X_mark_141 : decode b_X_mark 141 = .ok (.getfield 47, 3) := by decide +kernel
theorem d_X_mark_144 : decode b_X_mark 144 = .ok (.aload_n 0, 1) := by decide +kernel
theorem d_X_mark_145 : decode b_X_mark 145 = .ok (.getfield 54, 3) := by decide +kernel
theorem d_X_mark_148 : decode b_X_mark 148 = .ok (.getfield 184, 3) := by decide +kernel
theorem d_X_mark_151 : decode b_X_mark 151 = .ok (.invokevirtual 187, 3) := by decide +kernel
theorem d_X_mark_154 : decode b_X_mark 154 = .ok (.aload_n 0, 1) := by decide +kernel
theorem d_X_mark_155 : decode b_X_mark 155 = .ok (.getfield 47, 3) := by decide +kernel
theorem d_X_mark_158 : decode b_X_mark 158 = .ok (.getfield 204, 3) := by decide +kernel
theorem d_X_mark_161 : decode b_X_mark 161 = .ok (.ireturn, 1) := by decide +kernel
theorem d_X_mark_162 : decode b_X_mark 162 = .ok (.aload_n 0, 1) := by decide +kernel
theorem d_X_mark_163 : decode b_X_mark 163 = .ok (.getfield 36, 3) := by decide +kernel
theorem d_X_mark_166 : decode b_X_mark 166 = .ok (.iload_n 1, 1) := by decide +kernel
theorem d_X_mark_167 : decode b_X_mark 167 = .ok (.invokevirtual 205, 3) := by decide +kernel
theorem d_X_mark_170 : decode b_X_mark 170 = .ok (.ireturn, 1) := by decide +kernel
theorem d_X_stand_0 : decode b_X_stand 0 = .ok (.aload_n 0, 1) := by decide +kernel
theorem d_X_stand_1 : decode b_X_stand 1 = .ok (.iload_n 1, 1) := by decide +kernel
theorem d_X_stand_2 : decode b_X_stand 2 = .ok (.invokevirtual 161, 3) := by decide +kernel
theorem d_X_stand_5 : decode b_X_stand 5 = .ok (.ifCond .eq 10, 3) := by decide +kernel
theorem d_X_stand_8 : decode b_X_stand 8 = .ok (.iload_n 2, 1) := by decide +kernel
theorem d_X_stand_9 : decode b_X_stand 9 = .ok (.invokestatic 208, 3) := by decide +kernel
theorem d_X_stand_12 : decode b_X_stand 12 = .ok (.ifCond .ne 5, 3) := by decide +kernel
theorem d_X_stand_15 : decode b_X_stand 15 = .ok (.iconst (-1), 1) := by decide +kernel
theorem d_X_stand_16 : decode b_X_stand 16 = .ok (.ireturn, 1) := by decide +kernel
theorem d_X_stand_17 : decode b_X_stand 17 = .ok (.aload_n 0, 1) := by decide +kernel
theorem d_X_stand_18 : decode b_X_stand 18 = .ok (.getfield 36, 3) := by decide +kernel
theorem d_X_stand_21 : decode b_X_stand 21 = .ok (.iload_n 1, 1) := by decide +kernel
theorem d_X_stand_22 : decode b_X_stand 22 = .ok (.aload_n 0, 1) := by decide +kernel
theorem d_X_stand_23 : decode b_X_stand 23 = .ok (.getfield 54, 3) := by decide +kernel
theorem d_X_stand_26 : decode b_X_stand 26 = .ok (.invokevirtual 167, 3) := by decide +kernel
theorem d_X_stand_29 : decode b_X_stand 29 = .ok (.aload_n 0, 1) := by decide +kernel
theorem d_X_stand_30 : decode b_X_stand 30 = .ok (.getfield 54, 3) := by decide +kernel
theorem d_X_stand_33 : decode b_X_stand 33 = .ok (.getfield 184, 3) := by decide +kernel
theorem d_X_stand_36 : decode b_X_stand 36 = .ok (.istore_n 3, 1) := by decide +kernel
theorem d_X_stand_37 : decode b_X_stand 37 = .ok (.aload_n 0, 1) := by decide +kernel
theorem d_X_stand_38 : decode b_X_stand 38 = .ok (.getfield 54, 3) := by decide +kernel
theorem d_X_stand_41 : decode b_X_stand 41 = .ok (.aload_n 0, 1) := by decide +kernel
theorem d_X_stand_42 : decode b_X_stand 42 = .ok (.iload_n 2, 1) := by decide +kernel
theorem d_X_stand_43 : decode b_X_stand 43 = .ok (.invokevirtual 211, 3) := by decide +kernel
theorem d_X_stand_46 : decode b_X_stand 46 = .ok (.putfield 184, 3) := by decide +kernel
theorem d_X_stand_49 : decode b_X_stand 49 = .ok (.aload_n 0, 1) := by decide +kernel
theorem d_X_stand_50 : decode b_X_stand 50 = .ok (.getfield 36, 3) := by decide +kernel
theorem d_X_stand_53 : decode b_X_stand 53 = .ok (.iload_n 1, 1) := by decide +kernel
theorem d_X_stand_54 : decode b_X_stand 54 = .ok (.aload_n 0, 1) := by decide +kernel
theorem d_X_stand_55 : decode b_X_stand 55 = .ok (.getfield 54, 3) := by decide +kernel
theorem d_X_stand_58 : decode b_X_stand 58 = .ok (.invokevirtual 214, 3) := by decide +kernel
theorem d_X_stand_61 : decode b_X_stand 61 = .ok (.iload_n 3, 1) := by decide +kernel
theorem d_X_stand_62 : decode b_X_stand 62 = .ok (.ireturn, 1) := by decide +kernel
theorem d_X_head_0 : decode b_X_head 0 = .ok (.aload_n 0, 1) := by decide +kernel
theorem d_X_head_1 : decode b_X_head 1 = .ok (.iload_n 1, 1) := by decide +kernel
theorem d_X_head_2 : decode b_X_head 2 = .ok (.invokevirtual 161, 3) := by decide +kernel
theorem d_X_head_5 : decode b_X_head 5 = .ok (.ifCond .eq 10, 3) := by decide +kernel
theorem d_X_head_8 : decode b_X_head 8 = .ok (.iload_n 2, 1) := by decide +kernel
theorem d_X_head_9 : decode b_X_head 9 = .ok (.invokestatic 217, 3) := by decide +kernel
theorem d_X_head_12 : decode b_X_head 12 = .ok (.ifCond .ne 5, 3) := by decide +kernel
theorem d_X_head_15 : decode b_X_head 15 = .ok (.iconst (-1), 1) := by decide +kernel
theorem d_X_head_16 : decode b_X_head 16 = .ok (.ireturn, 1) := by decide +kernel
theorem d_X_head_17 : decode b_X_head 17 = .ok (.aload_n 0, 1) := by decide +kernel
theorem d_X_head_18 : decode b_X_head 18 = .ok (.getfield 36, 3) := by decide +kernel
theorem d_X_head_21 : decode b_X_head 21 = .ok (.iload_n 1, 1) := by decide +kernel
theorem d_X_head_22 : decode b_X_head 22 = .ok (.aload_n 0, 1) := by decide +kernel
theorem d_X_head_23 : decode b_X_head 23 = .ok (.getfield 54, 3) := by decide +kernel
theorem d_X_head_26 : decode b_X_head 26 = .ok (.invokevirtual 167, 3) := by decide +kernel
theorem d_X_head_29 : decode b_X_head 29 = .ok (.aload_n 0, 1) := by decide +kernel
theorem d_X_head_30 : decode b_X_head 30 = .ok (.getfield 54, 3) := by decide +kernel
theorem d_X_head_33 : decode b_X_head 33 = .ok (.getfield 177, 3) := by decide +kernel
theorem d_X_head_36 : decode b_X_head 36 = .ok (.istore_n 3, 1) := by decide +kernel
theorem d_X_head_37 : decode b_X_head 37 = .ok (.aload_n 0, 1) := by decide +kernel
theorem d_X_head_38 : decode b_X_head 38 = .ok (.getfield 54, 3) := by decide +kernel
theorem d_X_head_41 : decode b_X_head 41 = .ok (.iload_n 2, 1) := by decide +kernel
theorem d_X_head_42 : decode b_X_head 42 = .ok (.putfield 177, 3) := by decide +kernel
theorem d_X_head_45 : decode b_X_head 45 = .ok (.aload_n 0, 1) := by decide +kernel
theorem d_X_head_46 : decode b_X_head 46 = .ok (.getfield 54, 3) := by decide +kernel
theorem d_X_head_49 : decode b_X_head 49 = .ok (.iconst 0, 1) := by decide +kernel
theorem d_X_head_50 : decode b_X_head 50 = .ok (.putfield 220, 3) := by decide +kernel
theorem d_X_head_53 : decode b_X_head 53 = .ok (.aload_n 0, 1) := by decide +kernel
theorem d_X_head_54 : decode b_X_head 54 = .ok (.getfield 36, 3) := by decide +kernel
theorem d_X_head_57 : decode b_X_head 57 = .ok (.iload_n 1, 1) := by decide +kernel
theorem d_X_head_58 : decode b_X_head 58 = .ok (.aload_n 0, 1) := by decide +kernel
theorem d_X_head_59 : decode b_X_head 59 = .ok (.getfield 54, 3) := by decide +kernel
theorem d_X_head_62 : decode b_X_head 62 = .ok (.invokevirtual 214, 3) := by decide +kernel
theorem d_X_head_65 : decode b_X_head 65 = .ok (.iload_n 3, 1) := by decide +kernel
theorem d_X_head_66 : decode b_X_head 66 = .ok (.ireturn, 1) := by decide +kernel
theorem d_X_hours_0 : decode b_X_hours 0 = .ok (.iload_n 1, 1) := by decide +kernel
theorem d_X_hours_1 : decode b_X_hours 1 = .ok (.ifCond .lt 9, 3) := by decide +kernel
theorem d_X_hours_4 : decode b_X_hours 4 = .ok (.iload_n 1, 1) := by decide +kernel
theorem d_X_hours_5 : decode b_X_hours 5 = .ok (.bipush 20, 2) := by decide +kernel
theorem d_X_hours_7 : decode b_X_hours 7 = .ok (.if_icmp .le 5, 3) := by decide +kernel
theorem d_X_hours_10 : decode b_X_hours 10 = .ok (.iconst (-1), 1) := by decide +kernel
theorem d_X_hours_11 : decode b_X_hours 11 = .ok (.ireturn, 1) := by decide +kernel
theorem d_X_hours_12 : decode b_X_hours 12 = .ok (.aload_n 0, 1) := by decide +kernel
theorem d_X_hours_13 : decode b_X_hours 13 = .ok (.getfield 36, 3) := by decide +kernel
theorem d_X_hours_16 : decode b_X_hours 16 = .ok (.getfield 158, 3) := by decide +kernel
theorem d_X_hours_19 : decode b_X_hours 19 = .ok (.ifCond .ne 6, 3) := by decide +kernel
theorem d_X_hours_22 : decode b_X_hours 22 = .ok (.bipush (-4), 2) := by decide +kernel
theorem d_X_hours_24 : decode b_X_hours 24 = .ok (.ireturn, 1) := by decide +kernel
theorem d_X_hours_25 : decode b_X_hours 25 = .ok (.aload_n 0, 1) := by decide +kernel
theorem d_X_hours_26 : decode b_X_hours 26 = .ok (.getfield 36, 3) := by decide +kernel
theorem d_X_hours_29 : decode b_X_hours 29 = .ok (.getfield 223, 3) := by decide +kernel
theorem d_X_hours_32 : decode b_X_hours 32 = .ok (.iload_n 1, 1) := by decide +kernel
theorem d_X_hours_33 : decode b_X_hours 33 = .ok (.iadd, 1) := by decide +kernel
theorem d_X_hours_34 : decode b_X_hours 34 = .ok (.bipush 60, 2) := by decide +kernel
theorem d_X_hours_36 : decode b_X_hours 36 = .ok (.if_icmp .le 6, 3) := by decide +kernel
theorem d_X_hours_39 : decode b_X_hours 39 = .ok (.bipush (-2), 2) := by decide +kernel
theorem d_X_hours_41 : decode b_X_hours 41 = .ok (.ireturn, 1) := by decide +kernel
theorem d_X_hours_42 : decode b_X_hours 42 = .ok (.iconst 0, 1) := by decide +kernel
theorem d_X_hours_43 : decode b_X_hours 43 = .ok (.istore_n 2, 1) := by decide +kernel
theorem d_X_hours_44 : decode b_X_hours 44 = .ok (.iload_n 2, 1) := by decide +kernel
theorem d_X_hours_45 : decode b_X_hours 45 = .ok (.iload_n 1, 1) := by decide +kernel
theorem d_X_hours_46 : decode b_X_hours 46 = .ok (.if_icmp .ge 24, 3) := by decide +kernel
theorem d_X_hours_49 : decode b_X_hours 49 = .ok (.aload_n 0, 1) := by decide +kernel
theorem d_X_hours_50 : decode b_X_hours 50 = .ok (.getfield 36, 3) := by decide +kernel
theorem d_X_hours_53 : decode b_X_hours 53 = .ok (.aload_n 0, 1) := by decide +kernel
theorem d_X_hours_54 : decode b_X_hours 54 = .ok (.getfield 54, 3) := by decide +kernel
theorem d_X_hours_57 : decode b_X_hours 57 = .ok (.aload_n 0, 1) := by decide +kernel
theorem d_X_hours_58 : decode b_X_hours 58 = .ok (.getfield 47, 3) := by decide +kernel
theorem d_X_hours_61 : decode b_X_hours 61 = .ok (.invokevirtual 226, 3) := by decide +kernel
theorem d_X_hours_64 : decode b_X_hours 64 = .ok (.iinc 2 1, 3) := by decide +kernel
theorem d_X_hours_67 : decode b_X_hours 67 = .ok (.goto (-23), 3) := by decide +kernel
theorem d_X_hours_70 : decode b_X_hours 70 = .ok (.aload_n 0, 1) := by decide +kernel
theorem d_X_hours_71 : decode b_X_hours 71 = .ok (.getfield 36, 3) := by decide +kernel
theorem d_X_hours_74 : decode b_X_hours 74 = .ok (.getfield 223, 3) := by decide +kernel
theorem d_X_hours_77 : decode b_X_hours 77 = .ok (.ireturn, 1) := by decide +kernel
theorem d_X_undo_0 : decode b_X_undo 0 = .ok (.iload_n 1, 1) := by decide +kernel
theorem d_X_undo_1 : decode b_X_undo 1 = .ok (.ifCond .lt 14, 3) := by decide +kernel
theorem d_X_undo_4 : decode b_X_undo 4 = .ok (.iload_n 1, 1) := by decide +kernel
theorem d_X_undo_5 : decode b_X_undo 5 = .ok (.aload_n 0, 1) := by decide +kernel
theorem d_X_undo_6 : decode b_X_undo 6 = .ok (.getfield 36, 3) := by decide +kernel
theorem d_X_undo_9 : decode b_X_undo 9 = .ok (.getfield 223, 3) := by decide +kernel
theorem d_X_undo_12 : decode b_X_undo 12 = .ok (.if_icmp .le 5, 3) := by decide +kernel
theorem d_X_undo_15 : decode b_X_undo 15 = .ok (.iconst (-1), 1) := by decide +kernel
theorem d_X_undo_16 : decode b_X_undo 16 = .ok (.ireturn, 1) := by decide +kernel
theorem d_X_undo_17 : decode b_X_undo 17 = .ok (.aload_n 0, 1) := by decide +kernel
theorem d_X_undo_18 : decode b_X_undo 18 = .ok (.getfield 36, 3) := by decide +kernel
theorem d_X_undo_21 : decode b_X_undo 21 = .ok (.getfield 223, 3) := by decide +kernel
theorem d_X_undo_24 : decode b_X_undo 24 = .ok (.iload_n 1, 1) := by decide +kernel
theorem d_X_undo_25 : decode b_X_undo 25 = .ok (.isub, 1) := by decide +kernel
theorem d_X_undo_26 : decode b_X_undo 26 = .ok (.istore_n 2, 1) := by decide +kernel
theorem d_X_undo_27 : decode b_X_undo 27 = .ok (.aload_n 0, 1) := by decide +kernel
theorem d_X_undo_28 : decode b_X_undo 28 = .ok (.getfield 36, 3) := by decide +kernel
theorem d_X_undo_31 : decode b_X_undo 31 = .ok (.iload_n 1, 1) := by decide +kernel
theorem d_X_undo_32 : decode b_X_undo 32 = .ok (.putfield 223, 3) := by decide +kernel
theorem d_X_undo_35 : decode b_X_undo 35 = .ok (.iload_n 2, 1) := by decide +kernel
theorem d_X_undo_36 : decode b_X_undo 36 = .ok (.ireturn, 1) := by decide +kernel
theorem d_X_keep_0 : decode b_X_keep 0 = .ok (.iload_n 1, 1) := by decide +kernel
theorem d_X_keep_1 : decode b_X_keep 1 = .ok (.invokestatic 229, 3) := by decide +kernel
theorem d_X_keep_4 : decode b_X_keep 4 = .ok (.ifCond .ne 5, 3) := by decide +kernel
theorem d_X_keep_7 : decode b_X_keep 7 = .ok (.iconst (-1), 1) := by decide +kernel
theorem d_X_keep_8 : decode b_X_keep 8 = .ok (.ireturn, 1) := by decide +kernel
theorem d_X_keep_9 : decode b_X_keep 9 = .ok (.aload_n 0, 1) := by decide +kernel
theorem d_X_keep_10 : decode b_X_keep 10 = .ok (.getfield 36, 3) := by decide +kernel
theorem d_X_keep_13 : decode b_X_keep 13 = .ok (.getfield 158, 3) := by decide +kernel
theorem d_X_keep_16 : decode b_X_keep 16 = .ok (.ifCond .ne 6, 3) := by decide +kernel
theorem d_X_keep_19 : decode b_X_keep 19 = .ok (.bipush (-4), 2) := by decide +kernel
theorem d_X_keep_21 : decode b_X_keep 21 = .ok (.ireturn, 1) := by decide +kernel
theorem d_X_keep_22 : decode b_X_keep 22 = .ok (.aload_n 0, 1) := by decide +kernel
theorem d_X_keep_23 : decode b_X_keep 23 = .ok (.getfield 40, 3) := by decide +kernel
theorem d_X_keep_26 : decode b_X_keep 26 = .ok (.iload_n 1, 1) := by decide +kernel
theorem d_X_keep_27 : decode b_X_keep 27 = .ok (.aaload, 1) := by decide +kernel
theorem d_X_keep_28 : decode b_X_keep 28 = .ok (.aload_n 0, 1) := by decide +kernel
theorem d_X_keep_29 : decode b_X_keep 29 = .ok (.getfield 36, 3) := by decide +kernel
theorem d_X_keep_32 : decode b_X_keep 32 = .ok (.invokevirtual 232, 3) := by decide +kernel
theorem d_X_keep_35 : decode b_X_keep 35 = .ok (.aload_n 0, 1) := by decide +kernel
theorem d_X_keep_36 : decode b_X_keep 36 = .ok (.getfield 36, 3) := by decide +kernel
theorem d_X_keep_39 : decode b_X_keep 39 = .ok (.getfield 223, 3) := by decide +kernel
theorem d_X_keep_42 : decode b_X_keep 42 = .ok (.ireturn, 1) := by decide +kernel
theorem d_X_on_0 : decode b_X_on 0 = .ok (.iload_n 1, 1) := by decide +kernel
theorem d_X_on_1 : decode b_X_on 1 = .ok (.invokestatic 229, 3) := by decide +kernel
theorem d_X_on_4 : decode b_X_on 4 = .ok (.ifCond .ne 5, 3) := by decide +kernel
theorem d_X_on_7 : decode b_X_on 7 = .ok (.iconst (-1), 1) := by decide +kernel
theorem d_X_on_8 : decode b_X_on 8 = .ok (.ireturn, 1) := by decide +kernel
theorem d_X_on_9 : decode b_X_on 9 = .ok (.aload_n 0, 1) := by decide +kernel
theorem d_X_on_10 : decode b_X_on 10 = .ok (.getfield 40, 3) := by decide +kernel
theorem d_X_on_13 : decode b_X_on 13 = .ok (.iload_n 1, 1) := by decide +kernel
theorem d_X_on_14 : decode b_X_on 14 = .ok (.aaload, 1) := by decide +kernel
theorem d_X_on_15 : decode b_X_on 15 = .ok (.getfield 158, 3) := by decide +kernel
theorem d_X_on_18 : decode b_X_on 18 = .ok (.ifCond .ne 9, 3) := by decide +kernel
theorem d_X_on_21 : decode b_X_on 21 = .ok (.aload_n 0, 1) := by decide +kernel
theorem d_X_on_22 : decode b_X_on 22 = .ok (.iconst 1, 1) := by decide +kernel
theorem d_X_on_23 : decode b_X_on 23 = .ok (.invokevirtual 116, 3) := by decide +kernel
theorem d_X_on_26 : decode b_X_on 26 = .ok (.ireturn, 1) := by decide +kernel
theorem d_X_on_27 : decode b_X_on 27 = .ok (.aload_n 0, 1) := by decide +kernel
theorem d_X_on_28 : decode b_X_on 28 = .ok (.getfield 36, 3) := by decide +kernel
theorem d_X_on_31 : decode b_X_on 31 = .ok (.aload_n 0, 1) := by decide +kernel
theorem d_X_on_32 : decode b_X_on 32 = .ok (.getfield 40, 3) := by decide +kernel
theorem d_X_on_35 : decode b_X_on 35 = .ok (.iload_n 1, 1) := by decide +kernel
theorem d_X_on_36 : decode b_X_on 36 = .ok (.aaload, 1) := by decide +kernel
theorem d_X_on_37 : decode b_X_on 37 = .ok (.invokevirtual 232, 3) := by decide +kernel
theorem d_X_on_40 : decode b_X_on 40 = .ok (.aload_n 0, 1) := by decide +kernel
theorem d_X_on_41 : decode b_X_on 41 = .ok (.getfield 36, 3) := by decide +kernel
theorem d_X_on_44 : decode b_X_on 44 = .ok (.getfield 223, 3) := by decide +kernel
theorem d_X_on_47 : decode b_X_on 47 = .ok (.ireturn, 1) := by decide +kernel
theorem d_X_plain_0 : decode b_X_plain 0 = .ok (.iload_n 1, 1) := by decide +kernel
theorem d_X_plain_1 : decode b_X_plain 1 = .ok (.invokestatic 208, 3) := by decide +kernel
theorem d_X_plain_4 : decode b_X_plain 4 = .ok (.ifCond .ne 5, 3) := by decide +kernel
theorem d_X_plain_7 : decode b_X_plain 7 = .ok (.iconst (-1), 1) := by decide +kernel
theorem d_X_plain_8 : decode b_X_plain 8 = .ok (.ireturn, 1) := by decide +kernel
theorem d_X_plain_9 : decode b_X_plain 9 = .ok (.aload_n 0, 1) := by decide +kernel
theorem d_X_plain_10 : decode b_X_plain 10 = .ok (.iload_n 1, 1) := by decide +kernel
theorem d_X_plain_11 : decode b_X_plain 11 = .ok (.invokevirtual 211, 3) := by decide +kernel
theorem d_X_plain_14 : decode b_X_plain 14 = .ok (.ireturn, 1) := by decide +kernel
theorem d_X_join_0 : decode b_X_join 0 = .ok (.iload_n 1, 1) := by decide +kernel
theorem d_X_join_1 : decode b_X_join 1 = .ok (.invokestatic 208, 3) := by decide +kernel
theorem d_X_join_4 : decode b_X_join 4 = .ok (.ifCond .eq 10, 3) := by decide +kernel
theorem d_X_join_7 : decode b_X_join 7 = .ok (.iload_n 2, 1) := by decide +kernel
theorem d_X_join_8 : decode b_X_join 8 = .ok (.invokestatic 208, 3) := by decide +kernel
theorem d_X_join_11 : decode b_X_join 11 = .ok (.ifCond .ne 5, 3) := by decide +kernel
theorem d_X_join_14 : decode b_X_join 14 = .ok (.iconst (-1), 1) := by decide +kernel
theorem d_X_join_15 : decode b_X_join 15 = .ok (.ireturn, 1) := by decide +kernel
theorem d_X_join_16 : decode b_X_join 16 = .ok (.aload_n 0, 1) := by decide +kernel
theorem d_X_join_17 : decode b_X_join 17 = .ok (.getfield 47, 3) := by decide +kernel
theorem d_X_join_20 : decode b_X_join 20 = .ok (.iload_n 1, 1) := by decide +kernel
theorem d_X_join_21 : decode b_X_join 21 = .ok (.invokevirtual 187, 3) := by decide +kernel
theorem d_X_join_24 : decode b_X_join 24 = .ok (.aload_n 0, 1) := by decide +kernel
theorem d_X_join_25 : decode b_X_join 25 = .ok (.getfield 47, 3) := by decide +kernel
theorem d_X_join_28 : decode b_X_join 28 = .ok (.iload_n 2, 1) := by decide +kernel
theorem d_X_join_29 : decode b_X_join 29 = .ok (.invokevirtual 235, 3) := by decide +kernel
theorem d_X_join_32 : decode b_X_join 32 = .ok (.aload_n 0, 1) := by decide +kernel
theorem d_X_join_33 : decode b_X_join 33 = .ok (.getfield 47, 3) := by decide +kernel
theorem d_X_join_36 : decode b_X_join 36 = .ok (.invokevirtual 238, 3) := by decide +kernel
theorem d_X_join_39 : decode b_X_join 39 = .ok (.ireturn, 1) := by decide +kernel
theorem d_X_back_0 : decode b_X_back 0 = .ok (.iload_n 1, 1) := by decide +kernel
theorem d_X_back_1 : decode b_X_back 1 = .ok (.invokestatic 208, 3) := by decide +kernel
theorem d_X_back_4 : decode b_X_back 4 = .ok (.ifCond .ne 5, 3) := by decide +kernel
theorem d_X_back_7 : decode b_X_back 7 = .ok (.iconst (-1), 1) := by decide +kernel
theorem d_X_back_8 : decode b_X_back 8 = .ok (.ireturn, 1) := by decide +kernel
theorem d_X_back_9 : decode b_X_back 9 = .ok (.aload_n 0, 1) := by decide +kernel
theorem d_X_back_10 : decode b_X_back 10 = .ok (.getfield 47, 3) := by decide +kernel
theorem d_X_back_13 : decode b_X_back 13 = .ok (.invokevirtual 241, 3) := by decide +kernel
theorem d_X_back_16 : decode b_X_back 16 = .ok (.aload_n 0, 1) := by decide +kernel
theorem d_X_back_17 : decode b_X_back 17 = .ok (.getfield 47, 3) := by decide +kernel
theorem d_X_back_20 : decode b_X_back 20 = .ok (.iload_n 1, 1) := by decide +kernel
theorem d_X_back_21 : decode b_X_back 21 = .ok (.invokevirtual 244, 3) := by decide +kernel
theorem d_X_back_24 : decode b_X_back 24 = .ok (.aload_n 0, 1) := by decide +kernel
theorem d_X_back_25 : decode b_X_back 25 = .ok (.getfield 47, 3) := by decide +kernel
theorem d_X_back_28 : decode b_X_back 28 = .ok (.invokevirtual 238, 3) := by decide +kernel
theorem d_X_back_31 : decode b_X_back 31 = .ok (.ireturn, 1) := by decide +kernel
theorem d_X_far_0 : decode b_X_far 0 = .ok (.iload_n 1, 1) := by decide +kernel
theorem d_X_far_1 : decode b_X_far 1 = .ok (.invokestatic 208, 3) := by decide +kernel
theorem d_X_far_4 : decode b_X_far 4 = .ok (.ifCond .eq 10, 3) := by decide +kernel
theorem d_X_far_7 : decode b_X_far 7 = .ok (.iload_n 2, 1) := by decide +kernel
theorem d_X_far_8 : decode b_X_far 8 = .ok (.invokestatic 208, 3) := by decide +kernel
theorem d_X_far_11 : decode b_X_far 11 = .ok (.ifCond .ne 5, 3) := by decide +kernel
theorem d_X_far_14 : decode b_X_far 14 = .ok (.iconst (-1), 1) := by decide +kernel
theorem d_X_far_15 : decode b_X_far 15 = .ok (.ireturn, 1) := by decide +kernel
theorem d_X_far_16 : decode b_X_far 16 = .ok (.aload_n 0, 1) := by decide +kernel
theorem d_X_far_17 : decode b_X_far 17 = .ok (.iload_n 1, 1) := by decide +kernel
theorem d_X_far_18 : decode b_X_far 18 = .ok (.iload_n 2, 1) := by decide +kernel
theorem d_X_far_19 : decode b_X_far 19 = .ok (.invokevirtual 247, 3) := by decide +kernel
theorem d_X_far_22 : decode b_X_far 22 = .ok (.ireturn, 1) := by decide +kernel
theorem d_X_ends_0 : decode b_X_ends 0 = .ok (.iload_n 1, 1) := by decide +kernel
theorem d_X_ends_1 : decode b_X_ends 1 = .ok (.invokestatic 208, 3) := by decide +kernel
theorem d_X_ends_4 : decode b_X_ends 4 = .ok (.ifCond .ne 5, 3) := by decide +kernel
theorem d_X_ends_7 : decode b_X_ends 7 = .ok (.iconst (-1), 1) := by decide +kernel
theorem d_X_ends_8 : decode b_X_ends 8 = .ok (.ireturn, 1) := by decide +kernel
theorem d_X_ends_9 : decode b_X_ends 9 = .ok (.aload_n 0, 1) := by decide +kernel
theorem d_X_ends_10 : decode b_X_ends 10 = .ok (.getfield 47, 3) := by decide +kernel
theorem d_X_ends_13 : decode b_X_ends 13 = .ok (.iload_n 1, 1) := by decide +kernel
theorem d_X_ends_14 : decode b_X_ends 14 = .ok (.invokevirtual 187, 3) := by decide +kernel
theorem d_X_ends_17 : decode b_X_ends 17 = .ok (.aload_n 0, 1) := by decide +kernel
theorem d_X_ends_18 : decode b_X_ends 18 = .ok (.getfield 47, 3) := by decide +kernel
theorem d_X_ends_21 : decode b_X_ends 21 = .ok (.invokevirtual 191, 3) := by decide +kernel
theorem d_X_ends_24 : decode b_X_ends 24 = .ok (.ireturn, 1) := by decide +kernel
theorem d_X_begins_0 : decode b_X_begins 0 = .ok (.iload_n 1, 1) := by decide +kernel
theorem d_X_begins_1 : decode b_X_begins 1 = .ok (.invokestatic 208, 3) := by decide +kernel
theorem d_X_begins_4 : decode b_X_begins 4 = .ok (.ifCond .ne 5, 3) := by decide +kernel
theorem d_X_begins_7 : decode b_X_begins 7 = .ok (.iconst (-1), 1) := by decide +kernel
theorem d_X_begins_8 : decode b_X_begins 8 = .ok (.ireturn, 1) := by decide +kernel
theorem d_X_begins_9 : decode b_X_begins 9 = .ok (.aload_n 0, 1) := by decide +kernel
theorem d_X_begins_10 : decode b_X_begins 10 = .ok (.getfield 47, 3) := by decide +kernel
theorem d_X_begins_13 : decode b_X_begins 13 = .ok (.invokevirtual 241, 3) := by decide +kernel
theorem d_X_begins_16 : decode b_X_begins 16 = .ok (.aload_n 0, 1) := by decide +kernel
theorem d_X_begins_17 : decode b_X_begins 17 = .ok (.getfield 47, 3) := by decide +kernel
theorem d_X_begins_20 : decode b_X_begins 20 = .ok (.iload_n 1, 1) := by decide +kernel
theorem d_X_begins_21 : decode b_X_begins 21 = .ok (.invokevirtual 244, 3) := by decide +kernel
theorem d_X_begins_24 : decode b_X_begins 24 = .ok (.aload_n 0, 1) := by decide +kernel
theorem d_X_begins_25 : decode b_X_begins 25 = .ok (.getfield 47, 3) := by decide +kernel
theorem d_X_begins_28 : decode b_X_begins 28 = .ok (.invokevirtual 191, 3) := by decide +kernel
theorem d_X_begins_31 : decode b_X_begins 31 = .ok (.ireturn, 1) := by decide +kernel
theorem d_X_ways_0 : decode b_X_ways 0 = .ok (.iload_n 1, 1) := by decide +kernel
theorem d_X_ways_1 : decode b_X_ways 1 = .ok (.invokestatic 208, 3) := by decide +kernel
theorem d_X_ways_4 : decode b_X_ways 4 = .ok (.ifCond .eq 10, 3) := by decide +kernel
theorem d_X_ways_7 : decode b_X_ways 7 = .ok (.iload_n 2, 1) := by decide +kernel
theorem d_X_ways_8 : decode b_X_ways 8 = .ok (.invokestatic 208, 3) := by decide +kernel
theorem d_X_ways_11 : decode b_X_ways 11 = .ok (.ifCond .ne 5, 3) := by decide +kernel
theorem d_X_ways_14 : decode b_X_ways 14 = .ok (.iconst (-1), 1) := by decide +kernel
theorem d_X_ways_15 : decode b_X_ways 15 = .ok (.ireturn, 1) := by decide +kernel
theorem d_X_ways_16 : decode b_X_ways 16 = .ok (.aload_n 0, 1) := by decide +kernel
theorem d_X_ways_17 : decode b_X_ways 17 = .ok (.getfield 47, 3) := by decide +kernel
theorem d_X_ways_20 : decode b_X_ways 20 = .ok (.iload_n 1, 1) := by decide +kernel
theorem d_X_ways_21 : decode b_X_ways 21 = .ok (.iload_n 2, 1) := by decide +kernel
theorem d_X_ways_22 : decode b_X_ways 22 = .ok (.invokevirtual 250, 3) := by decide +kernel
theorem d_X_ways_25 : decode b_X_ways 25 = .ok (.aload_n 0, 1) := by decide +kernel
theorem d_X_ways_26 : decode b_X_ways 26 = .ok (.getfield 64, 3) := by decide +kernel
theorem d_X_ways_29 : decode b_X_ways 29 = .ok (.aload_n 0, 1) := by decide +kernel
theorem d_X_ways_30 : decode b_X_ways 30 = .ok (.getfield 47, 3) := by decide +kernel
theorem d_X_ways_33 : decode b_X_ways 33 = .ok (.invokevirtual 253, 3) := by decide +kernel
theorem d_X_ways_36 : decode b_X_ways 36 = .ok (.aload_n 0, 1) := by decide +kernel
theorem d_X_ways_37 : decode b_X_ways 37 = .ok (.aload_n 0, 1) := by decide +kernel
theorem d_X_ways_38 : decode b_X_ways 38 = .ok (.getfield 64, 3) := by decide +kernel
theorem d_X_ways_41 : decode b_X_ways 41 = .ok (.getfield 256, 3) := by decide +kernel
theorem d_X_ways_44 : decode b_X_ways 44 = .ok (.lconst 1, 1) := by decide +kernel
theorem d_X_ways_45 : decode b_X_ways 45 = .ok (.invokevirtual 259, 3) := by decide +kernel
theorem d_X_ways_48 : decode b_X_ways 48 = .ok (.ireturn, 1) := by decide +kernel
theorem d_X_between_0 : decode b_X_between 0 = .ok (.iload_n 1, 1) := by decide +kernel
theorem d_X_between_1 : decode b_X_between 1 = .ok (.invokestatic 208, 3) := by decide +kernel
theorem d_X_between_4 : decode b_X_between 4 = .ok (.ifCond .eq 10, 3) := by decide +kernel
theorem d_X_between_7 : decode b_X_between 7 = .ok (.iload_n 2, 1) := by decide +kernel
theorem d_X_between_8 : decode b_X_between 8 = .ok (.invokestatic 208, 3) := by decide +kernel
theorem d_X_between_11 : decode b_X_between 11 = .ok (.ifCond .ne 5, 3) := by decide +kernel
theorem d_X_between_14 : decode b_X_between 14 = .ok (.iconst (-1), 1) := by decide +kernel
theorem d_X_between_15 : decode b_X_between 15 = .ok (.ireturn, 1) := by decide +kernel
theorem d_X_between_16 : decode b_X_between 16 = .ok (.aload_n 0, 1) := by decide +kernel
theorem d_X_between_17 : decode b_X_between 17 = .ok (.getfield 47, 3) := by decide +kernel
theorem d_X_between_20 : decode b_X_between 20 = .ok (.iload_n 1, 1) := by decide +kernel
theorem d_X_between_21 : decode b_X_between 21 = .ok (.iload_n 2, 1) := by decide +kernel
theorem d_X_between_22 : decode b_X_between 22 = .ok (.invokevirtual 250, 3) := by decide +kernel
theorem d_X_between_25 : decode b_X_between 25 = .ok (.aload_n 0, 1) := by decide +kernel
theorem d_X_between_26 : decode b_X_between 26 = .ok (.getfield 64, 3) := by decide +kernel
theorem d_X_between_29 : decode b_X_between 29 = .ok (.aload_n 0, 1) := by decide +kernel
theorem d_X_between_30 : decode b_X_between 30 = .ok (.getfield 47, 3) := by decide +kernel
theorem d_X_between_33 : decode b_X_between 33 = .ok (.invokevirtual 253, 3) := by decide +kernel
theorem d_X_between_36 : decode b_X_between 36 = .ok (.aload_n 0, 1) := by decide +kernel
theorem d_X_between_37 : decode b_X_between 37 = .ok (.getfield 64, 3) := by decide +kernel
theorem d_X_between_40 : decode b_X_between 40 = .ok (.getfield 263, 3) := by decide +kernel
theorem d_X_between_43 : decode b_X_between 43 = .ok (.ireturn, 1) := by decide +kernel
theorem d_X_lies_0 : decode b_X_lies 0 = .ok (.iload_n 1, 1) := by decide +kernel
theorem d_X_lies_1 : decode b_X_lies 1 = .ok (.invokestatic 208, 3) := by decide +kernel
theorem d_X_lies_4 : decode b_X_lies 4 = .ok (.ifCond .eq 17, 3) := by decide +kernel
theorem d_X_lies_7 : decode b_X_lies 7 = .ok (.iload_n 2, 1) := by decide +kernel
theorem d_X_lies_8 : decode b_X_lies 8 = .ok (.invokestatic 208, 3) := by decide +kernel
theorem d_X_lies_11 : decode b_X_lies 11 = .ok (.ifCond .eq 10, 3) := by decide +kernel
theorem d_X_lies_14 : decode b_X_lies 14 = .ok (.iload_n 3, 1) := by decide +kernel
theorem d_X_lies_15 : decode b_X_lies 15 = .ok (.invokestatic 208, 3) := by decide +kernel
theorem d_X_lies_18 : decode b_X_lies 18 = .ok (.ifCond .ne 5, 3) := by decide +kernel
theorem d_X_lies_21 : decode b_X_lies 21 = .ok (.iconst (-1), 1) := by decide +kernel
theorem d_X_lies_22 : decode b_X_lies 22 = .ok (.ireturn, 1) := by decide +kernel
theorem d_X_lies_23 : decode b_X_lies 23 = .ok (.aload_n 0, 1) := by decide +kernel
theorem d_X_lies_24 : decode b_X_lies 24 = .ok (.iload_n 1, 1) := by decide +kernel
theorem d_X_lies_25 : decode b_X_lies 25 = .ok (.iload_n 3, 1) := by decide +kernel
theorem d_X_lies_26 : decode b_X_lies 26 = .ok (.invokevirtual 247, 3) := by decide +kernel
theorem d_X_lies_29 : decode b_X_lies 29 = .ok (.aload_n 0, 1) := by decide +kernel
theorem d_X_lies_30 : decode b_X_lies 30 = .ok (.iload_n 3, 1) := by decide +kernel
theorem d_X_lies_31 : decode b_X_lies 31 = .ok (.iload_n 2, 1) := by decide +kernel
theorem d_X_lies_32 : decode b_X_lies 32 = .ok (.invokevirtual 247, 3) := by decide +kernel
theorem d_X_lies_35 : decode b_X_lies 35 = .ok (.iadd, 1) := by decide +kernel
theorem d_X_lies_36 : decode b_X_lies 36 = .ok (.aload_n 0, 1) := by decide +kernel
theorem d_X_lies_37 : decode b_X_lies 37 = .ok (.iload_n 1, 1) := by decide +kernel
theorem d_X_lies_38 : decode b_X_lies 38 = .ok (.iload_n 2, 1) := by decide +kernel
theorem d_X_lies_39 : decode b_X_lies 39 = .ok (.invokevirtual 247, 3) := by decide +kernel
theorem d_X_lies_42 : decode b_X_lies 42 = .ok (.if_icmp .ne 7, 3) := by decide +kernel
theorem d_X_lies_45 : decode b_X_lies 45 = .ok (.iconst 1, 1) := by decide +kernel
theorem d_X_lies_46 : decode b_X_lies 46 = .ok (.goto 4, 3) := by decide +kernel
theorem d_X_lies_49 : decode b_X_lies 49 = .ok (.iconst 0, 1) := by decide +kernel
theorem d_X_lies_50 : decode b_X_lies 50 = .ok (.ireturn, 1) := by decide +kernel
theorem d_X_path_0 : decode b_X_path 0 = .ok (.iload_n 1, 1) := by decide +kernel
theorem d_X_path_1 : decode b_X_path 1 = .ok (.invokestatic 208, 3) := by decide +kernel
theorem d_X_path_4 : decode b_X_path 4 = .ok (.ifCond .eq 17, 3) := by decide +kernel
theorem d_X_path_7 : decode b_X_path 7 = .ok (.iload_n 2, 1) := by decide +kernel
theorem d_X_path_8 : decode b_X_path 8 = .ok (.invokestatic 208, 3) := by decide +kernel
theorem d_X_path_11 : decode b_X_path 11 = .ok (.ifCond .eq 10, 3) := by decide +kernel
theorem d_X_path_14 : decode b_X_path 14 = .ok (.iload_n 3, 1) := by decide +kernel
theorem d_X_path_15 : decode b_X_path 15 = .ok (.invokestatic 112, 3) := by decide +kernel
theorem d_X_path_18 : decode b_X_path 18 = .ok (.ifCond .ne 5, 3) := by decide +kernel
theorem d_X_path_21 : decode b_X_path 21 = .ok (.iconst (-1), 1) := by decide +kernel
theorem d_X_path_22 : decode b_X_path 22 = .ok (.ireturn, 1) := by decide +kernel
theorem d_X_path_23 : decode b_X_path 23 = .ok (.aload_n 0, 1) := by decide +kernel
theorem d_X_path_24 : decode b_X_path 24 = .ok (.getfield 47, 3) := by decide +kernel
theorem d_X_path_27 : decode b_X_path 27 = .ok (.iload_n 1, 1) := by decide +kernel
theorem d_X_path_28 : decode b_X_path 28 = .ok (.iload_n 2, 1) := by decide +kernel
theorem d_X_path_29 : decode b_X_path 29 = .ok (.invokevirtual 250, 3) := by decide +kernel
theorem d_X_path_32 : decode b_X_path 32 = .ok (.aload_n 0, 1) := by decide +kernel
theorem d_X_path_33 : decode b_X_path 33 = .ok (.iload_n 3, 1) := by decide +kernel
theorem d_X_path_34 : decode b_X_path 34 = .ok (.aload_n 0, 1) := by decide +kernel
theorem d_X_path_35 : decode b_X_path 35 = .ok (.getfield 47, 3) := by decide +kernel
theorem d_X_path_38 : decode b_X_path 38 = .ok (.getfield 204, 3) := by decide +kernel
theorem d_X_path_41 : decode b_X_path 41 = .ok (.invokevirtual 120, 3) := by decide +kernel
theorem d_X_path_44 : decode b_X_path 44 = .ok (.iconst 0, 1) := by decide +kernel
theorem d_X_path_45 : decode b_X_path 45 = .ok (.istore 4, 2) := by decide +kernel
theorem d_X_path_47 : decode b_X_path 47 = .ok (.iload 4, 2) := by decide +kernel
theorem d_X_path_49 : decode b_X_path 49 = .ok (.aload_n 0, 1) := by decide +kernel
theorem d_X_path_50 : decode b_X_path 50 = .ok (.getfield 14, 3) := by decide +kernel
theorem d_X_path_53 : decode b_X_path 53 = .ok (.iload_n 3, 1) := by decide +kernel
theorem d_X_path_54 : decode b_X_path 54 = .ok (.iaload, 1) := by decide +kernel
theorem d_X_path_55 : decode b_X_path 55 = .ok (.if_icmp .ge 27, 3) := by decide +kernel
theorem d_X_path_58 : decode b_X_path 58 = .ok (.aload_n 0, 1) := by decide +kernel
theorem d_X_path_59 : decode b_X_path 59 = .ok (.getfield 11, 3) := by decide +kernel
theorem d_X_path_62 : decode b_X_path 62 = .ok (.iload_n 3, 1) := by decide +kernel
theorem d_X_path_63 : decode b_X_path 63 = .ok (.aaload, 1) := by decide +kernel
theorem d_X_path_64 : decode b_X_path 64 = .ok (.iload 4, 2) := by decide +kernel
theorem d_X_path_66 : decode b_X_path 66 = .ok (.aload_n 0, 1) := by decide +kernel
theorem d_X_path_67 : decode b_X_path 67 = .ok (.getfield 47, 3) := by decide +kernel
theorem d_X_path_70 : decode b_X_path 70 = .ok (.iload 4, 2) := by decide +kernel
theorem d_X_path_72 : decode b_X_path 72 = .ok (.invokevirtual 266, 3) := by decide +kernel
theorem d_X_path_75 : decode b_X_path 75 = .ok (.iastore, 1) := by decide +kernel
theorem d_X_path_76 : decode b_X_path 76 = .ok (.iinc 4 1, 3) := by decide +kernel
theorem d_X_path_79 : decode b_X_path 79 = .ok (.goto (-32), 3) := by decide +kernel
theorem d_X_path_82 : decode b_X_path 82 = .ok (.aload_n 0, 1) := by decide +kernel
theorem d_X_path_83 : decode b_X_path 83 = .ok (.getfield 47, 3) := by decide +kernel
theorem d_X_path_86 : decode b_X_path 86 = .ok (.getfield 204, 3) := by decide +kernel
theorem d_X_path_89 : decode b_X_path 89 = .ok (.ireturn, 1) := by decide +kernel
theorem d_X_thin_0 : decode b_X_thin 0 = .ok (.iload_n 1, 1) := by decide +kernel
theorem d_X_thin_1 : decode b_X_thin 1 = .ok (.invokestatic 208, 3) := by decide +kernel
theorem d_X_thin_4 : decode b_X_thin 4 = .ok (.ifCond .eq 17, 3) := by decide +kernel
theorem d_X_thin_7 : decode b_X_thin 7 = .ok (.iload_n 2, 1) := by decide +kernel
theorem d_X_thin_8 : decode b_X_thin 8 = .ok (.invokestatic 208, 3) := by decide +kernel
theorem d_X_thin_11 : decode b_X_thin 11 = .ok (.ifCond .eq 10, 3) := by decide +kernel
theorem d_X_thin_14 : decode b_X_thin 14 = .ok (.iload_n 3, 1) := by decide +kernel
theorem d_X_thin_15 : decode b_X_thin 15 = .ok (.invokestatic 208, 3) := by decide +kernel
theorem d_X_thin_18 : decode b_X_thin 18 = .ok (.ifCond .ne 5, 3) := by decide +kernel
theorem d_X_thin_21 : decode b_X_thin 21 = .ok (.iconst (-1), 1) := by decide +kernel
theorem d_X_thin_22 : decode b_X_thin 22 = .ok (.ireturn, 1) := by decide +kernel
theorem d_X_thin_23 : decode b_X_thin 23 = .ok (.aload_n 0, 1) := by decide +kernel
theorem d_X_thin_24 : decode b_X_thin 24 = .ok (.getfield 71, 3) := by decide +kernel
theorem d_X_thin_27 : decode b_X_thin 27 = .ok (.iload_n 1, 1) := by decide +kernel
theorem d_X_thin_28 : decode b_X_thin 28 = .ok (.iload_n 2, 1) := by decide +kernel
theorem d_X_thin_29 : decode b_X_thin 29 = .ok (.iload_n 3, 1) := by decide +kernel
theorem d_X_thin_30 : decode b_X_thin 30 = .ok (.invokevirtual 269, 3) := by decide +kernel
theorem d_X_thin_33 : decode b_X_thin 33 = .ok (.ireturn, 1) := by decide +kernel
theorem d_X_ring_0 : decode b_X_ring 0 = .ok (.iload_n 1, 1) := by decide +kernel
theorem d_X_ring_1 : decode b_X_ring 1 = .ok (.ifCond .lt 9, 3) := by decide +kernel
theorem d_X_ring_4 : decode b_X_ring 4 = .ok (.iload_n 1, 1) := by decide +kernel
theorem d_X_ring_5 : decode b_X_ring 5 = .ok (.bipush 30, 2) := by decide +kernel
theorem d_X_ring_7 : decode b_X_ring 7 = .ok (.if_icmp .le 5, 3) := by decide +kernel
theorem d_X_ring_10 : decode b_X_ring 10 = .ok (.iconst (-1), 1) := by decide +kernel
theorem d_X_ring_11 : decode b_X_ring 11 = .ok (.ireturn, 1) := by decide +kernel
theorem d_X_ring_12 : decode b_X_ring 12 = .ok (.aload_n 0, 1) := by decide +kernel
theorem d_X_ring_13 : decode b_X_ring 13 = .ok (.iload_n 1, 1) := by decide +kernel
theorem d_X_ring_14 : decode b_X_ring 14 = .ok (.invokestatic 273, 3) := by decide +kernel
theorem d_X_ring_17 : decode b_X_ring 17 = .ok (.lconst 1, 1) := by decide +kernel
theorem d_X_ring_18 : decode b_X_ring 18 = .ok (.invokevirtual 259, 3) := by decide +kernel
theorem d_X_ring_21 : decode b_X_ring 21 = .ok (.ireturn, 1) := by decide +kernel
theorem d_X_within_0 : decode b_X_within 0 = .ok (.iload_n 1, 1) := by decide +kernel
theorem d_X_within_1 : decode b_X_within 1 = .ok (.ifCond .lt 9, 3) := by decide +kernel
theorem d_X_within_4 : decode b_X_within 4 = .ok (.iload_n 1, 1) := by decide +kernel
theorem d_X_within_5 : decode b_X_within 5 = .ok (.bipush 30, 2) := by decide +kernel
theorem d_X_within_7 : decode b_X_within 7 = .ok (.if_icmp .le 5, 3) := by decide +kernel
theorem d_X_within_10 : decode b_X_within 10 = .ok (.iconst (-1), 1) := by decide +kernel
theorem d_X_within_11 : decode b_X_within 11 = .ok (.ireturn, 1) := by decide +kernel
theorem d_X_within_12 : decode b_X_within 12 = .ok (.aload_n 0, 1) := by decide +kernel
theorem d_X_within_13 : decode b_X_within 13 = .ok (.iload_n 1, 1) := by decide +kernel
theorem d_X_within_14 : decode b_X_within 14 = .ok (.invokestatic 277, 3) := by decide +kernel
theorem d_X_within_17 : decode b_X_within 17 = .ok (.lconst 1, 1) := by decide +kernel
theorem d_X_within_18 : decode b_X_within 18 = .ok (.invokevirtual 259, 3) := by decide +kernel
theorem d_X_within_21 : decode b_X_within 21 = .ok (.ireturn, 1) := by decide +kernel
theorem d_X_edge_0 : decode b_X_edge 0 = .ok (.iload_n 1, 1) := by decide +kernel
theorem d_X_edge_1 : decode b_X_edge 1 = .ok (.ifCond .lt 9, 3) := by decide +kernel
theorem d_X_edge_4 : decode b_X_edge 4 = .ok (.iload_n 1, 1) := by decide +kernel
theorem d_X_edge_5 : decode b_X_edge 5 = .ok (.bipush 30, 2) := by decide +kernel
theorem d_X_edge_7 : decode b_X_edge 7 = .ok (.if_icmp .le 5, 3) := by decide +kernel
theorem d_X_edge_10 : decode b_X_edge 10 = .ok (.iconst (-1), 1) := by decide +kernel
theorem d_X_edge_11 : decode b_X_edge 11 = .ok (.ireturn, 1) := by decide +kernel
theorem d_X_edge_12 : decode b_X_edge 12 = .ok (.aload_n 0, 1) := by decide +kernel
theorem d_X_edge_13 : decode b_X_edge 13 = .ok (.iload_n 1, 1) := by decide +kernel
theorem d_X_edge_14 : decode b_X_edge 14 = .ok (.invokestatic 273, 3) := by decide +kernel
theorem d_X_edge_17 : decode b_X_edge 17 = .ok (.iload_n 1, 1) := by decide +kernel
theorem d_X_edge_18 : decode b_X_edge 18 = .ok (.invokestatic 277, 3) := by decide +kernel
theorem d_X_edge_21 : decode b_X_edge 21 = .ok (.invokevirtual 259, 3) := by decide +kernel
theorem d_X_edge_24 : decode b_X_edge 24 = .ok (.ireturn, 1) := by decide +kernel
theorem d_X_beyond_0 : decode b_X_beyond 0 = .ok (.iload_n 1, 1) := by decide +kernel
theorem d_X_beyond_1 : decode b_X_beyond 1 = .ok (.invokestatic 208, 3) := by decide +kernel
theorem d_X_beyond_4 : decode b_X_beyond 4 = .ok (.ifCond .eq 13, 3) := by decide +kernel
theorem d_X_beyond_7 : decode b_X_beyond 7 = .ok (.iload_n 2, 1) := by decide +kernel
theorem d_X_beyond_8 : decode b_X_beyond 8 = .ok (.ifCond .lt 9, 3) := by decide +kernel
theorem d_X_beyond_11 : decode b_X_beyond 11 = .ok (.iload_n 2, 1) := by decide +kernel
theorem d_X_beyond_12 : decode b_X_beyond 12 = .ok (.bipush 20, 2) := by decide +kernel
theorem d_X_beyond_14 : decode b_X_beyond 14 = .ok (.if_icmp .le 5, 3) := by decide +kernel
theorem d_X_beyond_17 : decode b_X_beyond 17 = .ok (.iconst (-1), 1) := by decide +kernel
theorem d_X_beyond_18 : decode b_X_beyond 18 = .ok (.ireturn, 1) := by decide +kernel
theorem d_X_beyond_19 : decode b_X_beyond 19 = .ok (.aload_n 0, 1) := by decide +kernel
theorem d_X_beyond_20 : decode b_X_beyond 20 = .ok (.getfield 47, 3) := by decide +kernel
theorem d_X_beyond_23 : decode b_X_beyond 23 = .ok (.iload_n 1, 1) := by decide +kernel
theorem d_X_beyond_24 : decode b_X_beyond 24 = .ok (.invokevirtual 187, 3) := by decide +kernel
theorem d_X_beyond_27 : decode b_X_beyond 27 = .ok (.aload_n 0, 1) := by decide +kernel
theorem d_X_beyond_28 : decode b_X_beyond 28 = .ok (.getfield 47, 3) := by decide +kernel
theorem d_X_beyond_31 : decode b_X_beyond 31 = .ok (.invokevirtual 191, 3) := by decide +kernel
theorem d_X_beyond_34 : decode b_X_beyond 34 = .ok (.invokestatic 195, 3) := by decide +kernel
theorem d_X_beyond_37 : decode b_X_beyond 37 = .ok (.istore_n 3, 1) := by decide +kernel
theorem d_X_beyond_38 : decode b_X_beyond 38 = .ok (.iload_n 3, 1) := by decide +kernel
theorem d_X_beyond_39 : decode b_X_beyond 39 = .ok (.ifCond .ne 13, 3) := by decide +kernel
theorem d_X_beyond_42 : decode b_X_beyond 42 = .ok (.aload_n 0, 1) := by decide +kernel
theorem d_X_beyond_43 : decode b_X_beyond 43 = .ok (.iload_n 2, 1) := by decide +kernel
theorem d_X_beyond_44 : decode b_X_beyond 44 = .ok (.invokestatic 273, 3) := by decide +kernel
theorem d_X_beyond_47 : decode b_X_beyond 47 = .ok (.lconst 1, 1) := by decide +kernel
theorem d_X_beyond_48 : decode b_X_beyond 48 = .ok (.invokevirtual 259, 3) := by decide +kernel
theorem d_X_beyond_51 : decode b_X_beyond 51 = .ok (.ireturn, 1) := by decide +kernel
theorem d_X_beyond_52 : decode b_X_beyond 52 = .ok (.aload_n 0, 1) := by decide +kernel
theorem d_X_beyond_53 : decode b_X_beyond 53 = .ok (.iload_n 3, 1) := by decide +kernel
theorem d_X_beyond_54 : decode b_X_beyond 54 = .ok (.iconst 1, 1) := by decide +kernel
theorem d_X_beyond_55 : decode b_X_beyond 55 = .ok (.if_icmp .ne 10, 3) := by decide +kernel
theorem d_X_beyond_58 : decode b_X_beyond 58 = .ok (.iload_n 2, 1) := by decide +kernel
theorem d_X_beyond_59 : decode b_X_beyond 59 = .ok (.invokestatic 280, 3) := by decide +kernel
theorem d_X_beyond_62 : decode b_X_beyond 62 = .ok (.goto 7, 3) := by decide +kernel
theorem d_X_beyond_65 : decode b_X_beyond 65 = .ok (.iload_n 2, 1) := by decide +kernel
theorem d_X_beyond_66 : decode b_X_beyond 66 = .ok (.invokestatic 283, 3) := by decide +kernel
theorem d_X_beyond_69 : decode b_X_beyond 69 = .ok (.lconst 1, 1) := by decide +kernel
theorem d_X_beyond_70 : decode b_X_beyond 70 = .ok (.invokevirtual 259, 3) := by decide +kernel
theorem d_X_beyond_73 : decode b_X_beyond 73 = .ok (.ireturn, 1) := by decide +kernel
theorem d_X_houses_0 : decode b_X_houses 0 = .ok (.iload_n 1, 1) := by decide +kernel
theorem d_X_houses_1 : decode b_X_houses 1 = .ok (.ifCond .lt 9, 3) := by decide +kernel
theorem d_X_houses_4 : decode b_X_houses 4 = .ok (.iload_n 1, 1) := by decide +kernel
theorem d_X_houses_5 : decode b_X_houses 5 = .ok (.bipush 20, 2) := by decide +kernel
theorem d_X_houses_7 : decode b_X_houses 7 = .ok (.if_icmp .le 5, 3) := by decide +kernel
theorem d_X_houses_10 : decode b_X_houses 10 = .ok (.iconst (-1), 1) := by decide +kernel
theorem d_X_houses_11 : decode b_X_houses 11 = .ok (.ireturn, 1) := by decide +kernel
theorem d_X_houses_12 : decode b_X_houses 12 = .ok (.lconst 0, 1) := by decide +kernel
theorem d_X_houses_13 : decode b_X_houses 13 = .ok (.lstore_n 2, 1) := by decide +kernel
theorem d_X_houses_14 : decode b_X_houses 14 = .ok (.iconst 0, 1) := by decide +kernel
theorem d_X_houses_15 : decode b_X_houses 15 = .ok (.istore 4, 2) := by decide +kernel
theorem d_X_houses_17 : decode b_X_houses 17 = .ok (.iload 4, 2) := by decide +kernel
theorem d_X_houses_19 : decode b_X_houses 19 = .ok (.iload_n 1, 1) := by decide +kernel
theorem d_X_houses_20 : decode b_X_houses 20 = .ok (.if_icmp .gt 21, 3) := by decide +kernel
theorem d_X_houses_23 : decode b_X_houses 23 = .ok (.lload_n 2, 1) := by decide +kernel
theorem d_X_houses_24 : decode b_X_houses 24 = .ok (.ldc2_w 286, 3) := by decide +kernel
theorem d_X_houses_27 : decode b_X_houses 27 = .ok (.iload 4, 2) := by decide +kernel
theorem d_X_houses_29 : decode b_X_houses 29 = .ok (.invokestatic 283, 3) := by decide +kernel
theorem d_X_houses_32 : decode b_X_houses 32 = .ok (.lmul, 1) := by decide +kernel
theorem d_X_houses_33 : decode b_X_houses 33 = .ok (.ladd, 1) := by decide +kernel
theorem d_X_houses_34 : decode b_X_houses 34 = .ok (.lstore_n 2, 1) := by decide +kernel
theorem d_X_houses_35 : decode b_X_houses 35 = .ok (.iinc 4 1, 3) := by decide +kernel
theorem d_X_houses_38 : decode b_X_houses 38 = .ok (.goto (-21), 3) := by decide +kernel
theorem d_X_houses_41 : decode b_X_houses 41 = .ok (.aload_n 0, 1) := by decide +kernel
theorem d_X_houses_42 : decode b_X_houses 42 = .ok (.lload_n 2, 1) := by decide +kernel
theorem d_X_houses_43 : decode b_X_houses 43 = .ok (.lconst 1, 1) := by decide +kernel
theorem d_X_houses_44 : decode b_X_houses 44 = .ok (.invokevirtual 259, 3) := by decide +kernel
theorem d_X_houses_47 : decode b_X_houses 47 = .ok (.ireturn, 1) := by decide +kernel
theorem d_X_walk_0 : decode b_X_walk 0 = .ok (.aload_n 0, 1) := by decide +kernel
theorem d_X_walk_1 : decode b_X_walk 1 = .ok (.iload_n 1, 1) := by decide +kernel
theorem d_X_walk_2 : decode b_X_walk 2 = .ok (.invokevirtual 288, 3) := by decide +kernel
theorem d_X_walk_5 : decode b_X_walk 5 = .ok (.istore_n 2, 1) := by decide +kernel
theorem d_X_walk_6 : decode b_X_walk 6 = .ok (.iload_n 2, 1) := by decide +kernel
theorem d_X_walk_7 : decode b_X_walk 7 = .ok (.ifCond .eq 5, 3) := by decide +kernel
theorem d_X_walk_10 : decode b_X_walk 10 = .ok (.iload_n 2, 1) := by decide +kernel
theorem d_X_walk_11 : decode b_X_walk 11 = .ok (.ireturn, 1) := by decide +kernel
theorem d_X_walk_12 : decode b_X_walk 12 = .ok (.aload_n 0, 1) := by decide +kernel
theorem d_X_walk_13 : decode b_X_walk 13 = .ok (.getfield 47, 3) := by decide +kernel
theorem d_X_walk_16 : decode b_X_walk 16 = .ok (.invokevirtual 241, 3) := by decide +kernel
theorem d_X_walk_19 : decode b_X_walk 19 = .ok (.iconst 0, 1) := by decide +kernel
theorem d_X_walk_20 : decode b_X_walk 20 = .ok (.istore_n 3, 1) := by decide +kernel
theorem d_X_walk_21 : decode b_X_walk 21 = .ok (.iload_n 3, 1) := by decide +kernel
theorem d_X_walk_22 : decode b_X_walk 22 = .ok (.aload_n 0, 1) := by decide +kernel
theorem d_X_walk_23 : decode b_X_walk 23 = .ok (.getfield 14, 3) := by decide +kernel
theorem d_X_walk_26 : decode b_X_walk 26 = .ok (.iload_n 1, 1) := by decide +kernel
theorem d_X_walk_27 : decode b_X_walk 27 = .ok (.iaload, 1) := by decide +kernel
theorem d_X_walk_28 : decode b_X_walk 28 = .ok (.if_icmp .ge 24, 3) := by decide +kernel
theorem d_X_walk_31 : decode b_X_walk 31 = .ok (.aload_n 0, 1) := by decide +kernel
theorem d_X_walk_32 : decode b_X_walk 32 = .ok (.getfield 47, 3) := by decide +kernel
theorem d_X_walk_35 : decode b_X_walk 35 = .ok (.aload_n 0, 1) := by decide +kernel
theorem d_X_walk_36 : decode b_X_walk 36 = .ok (.getfield 11, 3) := by decide +kernel
theorem d_X_walk_39 : decode b_X_walk 39 = .ok (.iload_n 1, 1) := by decide +kernel
theorem d_X_walk_40 : decode b_X_walk 40 = .ok (.aaload, 1) := by decide +kernel
theorem d_X_walk_41 : decode b_X_walk 41 = .ok (.iload_n 3, 1) := by decide +kernel
theorem d_X_walk_42 : decode b_X_walk 42 = .ok (.iaload, 1) := by decide +kernel
theorem d_X_walk_43 : decode b_X_walk 43 = .ok (.invokevirtual 291, 3) := by decide +kernel
theorem d_X_walk_46 : decode b_X_walk 46 = .ok (.iinc 3 1, 3) := by decide +kernel
theorem d_X_walk_49 : decode b_X_walk 49 = .ok (.goto (-28), 3) := by decide +kernel
theorem d_X_walk_52 : decode b_X_walk 52 = .ok (.aload_n 0, 1) := by decide +kernel
theorem d_X_walk_53 : decode b_X_walk 53 = .ok (.getfield 47, 3) := by decide +kernel
theorem d_X_walk_56 : decode b_X_walk 56 = .ok (.getfield 204, 3) := by decide +kernel
theorem d_X_walk_59 : decode b_X_walk 59 = .ok (.bipush 9, 2) := by decide +kernel
theorem d_X_walk_61 : decode b_X_walk 61 = .ok (.if_icmp .le 6, 3) := by decide +kernel
theorem d_X_walk_64 : decode b_X_walk 64 = .ok (.bipush (-6), 2) := by decide +kernel
theorem d_X_walk_66 : decode b_X_walk 66 = .ok (.ireturn, 1) := by decide +kernel
theorem d_X_walk_67 : decode b_X_walk 67 = .ok (.aload_n 0, 1) := by decide +kernel
theorem d_X_walk_68 : decode b_X_walk 68 = .ok (.aload_n 0, 1) := by decide +kernel
theorem d_X_walk_69 : decode b_X_walk 69 = .ok (.getfield 14, 3) := by decide +kernel
theorem d_X_walk_72 : decode b_X_walk 72 = .ok (.iload_n 1, 1) := by decide +kernel
theorem d_X_walk_73 : decode b_X_walk 73 = .ok (.iaload, 1) := by decide +kernel
theorem d_X_walk_74 : decode b_X_walk 74 = .ok (.aload_n 0, 1) := by decide +kernel
theorem d_X_walk_75 : decode b_X_walk 75 = .ok (.getfield 47, 3) := by decide +kernel
theorem d_X_walk_78 : decode b_X_walk 78 = .ok (.getfield 204, 3) := by decide +kernel
theorem d_X_walk_81 : decode b_X_walk 81 = .ok (.isub, 1) := by decide +kernel
theorem d_X_walk_82 : decode b_X_walk 82 = .ok (.putfield 96, 3) := by decide +kernel
theorem d_X_walk_85 : decode b_X_walk 85 = .ok (.aload_n 0, 1) := by decide +kernel
theorem d_X_walk_86 : decode b_X_walk 86 = .ok (.getfield 47, 3) := by decide +kernel
theorem d_X_walk_89 : decode b_X_walk 89 = .ok (.invokevirtual 238, 3) := by decide +kernel
theorem d_X_walk_92 : decode b_X_walk 92 = .ok (.ireturn, 1) := by decide +kernel
theorem d_X_reaches_0 : decode b_X_reaches 0 = .ok (.aload_n 0, 1) := by decide +kernel
theorem d_X_reaches_1 : decode b_X_reaches 1 = .ok (.iload_n 1, 1) := by decide +kernel
theorem d_X_reaches_2 : decode b_X_reaches 2 = .ok (.invokevirtual 288, 3) := by decide +kernel
theorem d_X_reaches_5 : decode b_X_reaches 5 = .ok (.istore_n 2, 1) := by decide +kernel
theorem d_X_reaches_6 : decode b_X_reaches 6 = .ok (.iload_n 2, 1) := by decide +kernel
theorem d_X_reaches_7 : decode b_X_reaches 7 = .ok (.ifCond .eq 5, 3) := by decide +kernel
theorem d_X_reaches_10 : decode b_X_reaches 10 = .ok (.iload_n 2, 1) := by decide +kernel
theorem d_X_reaches_11 : decode b_X_reaches 11 = .ok (.ireturn, 1) := by decide +kernel
theorem d_X_reaches_12 : decode b_X_reaches 12 = .ok (.iconst 0, 1) := by decide +kernel
theorem d_X_reaches_13 : decode b_X_reaches 13 = .ok (.istore_n 3, 1) := by decide +kernel
theorem d_X_reaches_14 : decode b_X_reaches 14 = .ok (.iconst 0, 1) := by decide +kernel
theorem d_X_reaches_15 : decode b_X_reaches 15 = .ok (.istore 4, 2) := by decide +kernel
theorem d_X_reaches_17 : decode b_X_reaches 17 = .ok (.aload_n 0, 1) := by decide +kernel
theorem d_X_reaches_18 : decode b_X_reaches 18 = .ok (.getfield 47, 3) := by decide +kernel
theorem d_X_reaches_21 : decode b_X_reaches 21 = .ok (.invokevirtual 241, 3) := by decide +kernel
theorem d_X_reaches_24 : decode b_X_reaches 24 = .ok (.iconst 0, 1) := by decide +kernel
theorem d_X_reaches_25 : decode b_X_reaches 25 = .ok (.istore 5, 2) := by decide +kernel
theorem d_X_reaches_27 : decode b_X_reaches 27 = .ok (.iload 5, 2) := by decide +kernel
theorem d_X_reaches_29 : decode b_X_reaches 29 = .ok (.aload_n 0, 1) := by decide +kernel
theorem d_X_reaches_30 : decode b_X_reaches 30 = .ok (.getfield 14, 3) := by decide +kernel
theorem d_X_reaches_33 : decode b_X_reaches 33 = .ok (.iload_n 1, 1) := by decide +kernel
theorem d_X_reaches_34 : decode b_X_reaches 34 = .ok (.iaload, 1) := by decide +kernel
theorem d_X_reaches_35 : decode b_X_reaches 35 = .ok (.if_icmp .ge 50, 3) := by decide +kernel
theorem d_X_reaches_38 : decode b_X_reaches 38 = .ok (.aload_n 0, 1) := by decide +kernel
theorem d_X_reaches_39 : decode b_X_reaches 39 = .ok (.getfield 47, 3) := by decide +kernel
theorem d_X_reaches_42 : decode b_X_reaches 42 = .ok (.aload_n 0, 1) := by decide +kernel
theorem d_X_reaches_43 : decode b_X_reaches 43 = .ok (.getfield 11, 3) := by decide +kernel
theorem d_X_reaches_46 : decode b_X_reaches 46 = .ok (.iload_n 1, 1) := by decide +kernel
theorem d_X_reaches_47 : decode b_X_reaches 47 = .ok (.aaload, 1) := by decide +kernel
theorem d_X_reaches_48 : decode b_X_reaches 48 = .ok (.iload 5, 2) := by decide +kernel
theorem d_X_reaches_50 : decode b_X_reaches 50 = .ok (.iaload, 1) := by decide +kernel
theorem d_X_reaches_51 : decode b_X_reaches 51 = .ok (.invokevirtual 291, 3) := by decide +kernel
theorem d_X_reaches_54 : decode b_X_reaches 54 = .ok (.aload_n 0, 1) := by decide +kernel
theorem d_X_reaches_55 : decode b_X_reaches 55 = .ok (.getfield 47, 3) := by decide +kernel
theorem d_X_reaches_58 : decode b_X_reaches 58 = .ok (.getfield 204, 3) := by decide +kernel
theorem d_X_reaches_61 : decode b_X_reaches 61 = .ok (.iload_n 3, 1) := by decide +kernel
theorem d_X_reaches_62 : decode b_X_reaches 62 = .ok (.if_icmp .le 17, 3) := by decide +kernel
theorem d_X_reaches_65 : decode b_X_reaches 65 = .ok (.aload_n 0, 1) := by decide +kernel
theorem d_X_reaches_66 : decode b_X_reaches 66 = .ok (.getfield 47, 3) := by decide +kernel
theorem d_X_reaches_69 : decode b_X_reaches 69 = .ok (.getfield 204, 3) := by decide +kernel
theorem d_X_reaches_72 : decode b_X_reaches 72 = .ok (.istore_n 3, 1) := by decide +kernel
theorem d_X_reaches_73 : decode b_X_reaches 73 = .ok (.iload 5, 2) := by decide +kernel
theorem d_X_reaches_75 : decode b_X_reaches 75 = .ok (.iconst 1, 1) := by decide +kernel
theorem d_X_reaches_76 : decode b_X_reaches 76 = .ok (.iadd, 1) := by decide +kernel
theorem d_X_reaches_77 : decode b_X_reaches 77 = .ok (.istore 4, 2) := by decide +kernel
theorem d_X_reaches_79 : decode b_X_reaches 79 = .ok (.iinc 5 1, 3) := by decide +kernel
theorem d_X_reaches_82 : decode b_X_reaches 82 = .ok (.goto (-55), 3) := by decide +kernel
theorem d_X_reaches_85 : decode b_X_reaches 85 = .ok (.aload_n 0, 1) := by decide +kernel
theorem d_X_reaches_86 : decode b_X_reaches 86 = .ok (.iload 4, 2) := by decide +kernel
theorem d_X_reaches_88 : decode b_X_reaches 88 = .ok (.putfield 96, 3) := by decide +kernel
theorem d_X_reaches_91 : decode b_X_reaches 91 = .ok (.iload_n 3, 1) := by decide +kernel
theorem d_X_reaches_92 : decode b_X_reaches 92 = .ok (.ireturn, 1) := by decide +kernel
theorem d_X_sees_0 : decode b_X_sees 0 = .ok (.aload_n 0, 1) := by decide +kernel
theorem d_X_sees_1 : decode b_X_sees 1 = .ok (.iload_n 1, 1) := by decide +kernel
theorem d_X_sees_2 : decode b_X_sees 2 = .ok (.invokevirtual 288, 3) := by decide +kernel
theorem d_X_sees_5 : decode b_X_sees 5 = .ok (.istore_n 2, 1) := by decide +kernel
theorem d_X_sees_6 : decode b_X_sees 6 = .ok (.iload_n 2, 1) := by decide +kernel
theorem d_X_sees_7 : decode b_X_sees 7 = .ok (.ifCond .eq 5, 3) := by decide +kernel
theorem d_X_sees_10 : decode b_X_sees 10 = .ok (.iload_n 2, 1) := by decide +kernel
theorem d_X_sees_11 : decode b_X_sees 11 = .ok (.ireturn, 1) := by decide +kernel
theorem d_X_sees_12 : decode b_X_sees 12 = .ok (.iconst 0, 1) := by decide +kernel
theorem d_X_sees_13 : decode b_X_sees 13 = .ok (.istore_n 3, 1) := by decide +kernel
theorem d_X_sees_14 : decode b_X_sees 14 = .ok (.iconst 0, 1) := by decide +kernel
theorem d_X_sees_15 : decode b_X_sees 15 = .ok (.istore 4, 2) := by decide +kernel
theorem d_X_sees_17 : decode b_X_sees 17 = .ok (.iload 4, 2) := by decide +kernel
theorem d_X_sees_19 : decode b_X_sees 19 = .ok (.aload_n 0, 1) := by decide +kernel
theorem d_X_sees_20 : decode b_X_sees 20 = .ok (.getfield 14, 3) := by decide +kernel
theorem d_X_sees_23 : decode b_X_sees 23 = .ok (.iload_n 1, 1) := by decide +kernel
theorem d_X_sees_24 : decode b_X_sees 24 = .ok (.iaload, 1) := by decide +kernel
theorem d_X_sees_25 : decode b_X_sees 25 = .ok (.if_icmp .gt 22, 3) := by decide +kernel
theorem d_X_sees_28 : decode b_X_sees 28 = .ok (.aload_n 0, 1) := by decide +kernel
theorem d_X_sees_29 : decode b_X_sees 29 = .ok (.iload_n 1, 1) := by decide +kernel
theorem d_X_sees_30 : decode b_X_sees 30 = .ok (.iload 4, 2) := by decide +kernel
theorem d_X_sees_32 : decode b_X_sees 32 = .ok (.invokevirtual 294, 3) := by decide +kernel
theorem d_X_sees_35 : decode b_X_sees 35 = .ok (.ifCond .ne 6, 3) := by decide +kernel
theorem d_X_sees_38 : decode b_X_sees 38 = .ok (.iinc 3 1, 3) := by decide +kernel
theorem d_X_sees_41 : decode b_X_sees 41 = .ok (.iinc 4 1, 3) := by decide +kernel
theorem d_X_sees_44 : decode b_X_sees 44 = .ok (.goto (-27), 3) := by decide +kernel
theorem d_X_sees_47 : decode b_X_sees 47 = .ok (.iload_n 3, 1) := by decide +kernel
theorem d_X_sees_48 : decode b_X_sees 48 = .ok (.ireturn, 1) := by decide +kernel
theorem d_X_round_0 : decode b_X_round 0 = .ok (.iload_n 2, 1) := by decide +kernel
theorem d_X_round_1 : decode b_X_round 1 = .ok (.invokestatic 112, 3) := by decide +kernel
theorem d_X_round_4 : decode b_X_round 4 = .ok (.ifCond .ne 5, 3) := by decide +kernel
theorem d_X_round_7 : decode b_X_round 7 = .ok (.iconst (-1), 1) := by decide +kernel
theorem d_X_round_8 : decode b_X_round 8 = .ok (.ireturn, 1) := by decide +kernel
theorem d_X_round_9 : decode b_X_round 9 = .ok (.aload_n 0, 1) := by decide +kernel
theorem d_X_round_10 : decode b_X_round 10 = .ok (.iload_n 1, 1) := by decide +kernel
theorem d_X_round_11 : decode b_X_round 11 = .ok (.bipush 6, 2) := by decide +kernel
theorem d_X_round_13 : decode b_X_round 13 = .ok (.invokevirtual 298, 3) := by decide +kernel
theorem d_X_round_16 : decode b_X_round 16 = .ok (.istore_n 3, 1) := by decide +kernel
theorem d_X_round_17 : decode b_X_round 17 = .ok (.iload_n 3, 1) := by decide +kernel
theorem d_X_round_18 : decode b_X_round 18 = .ok (.ifCond .eq 5, 3) := by decide +kernel
theorem d_X_round_21 : decode b_X_round 21 = .ok (.iload_n 3, 1) := by decide +kernel
theorem d_X_round_22 : decode b_X_round 22 = .ok (.ireturn, 1) := by decide +kernel
theorem d_X_round_23 : decode b_X_round 23 = .ok (.aload_n 0, 1) := by decide +kernel
theorem d_X_round_24 : decode b_X_round 24 = .ok (.getfield 14, 3) := by decide +kernel
theorem d_X_round_27 : decode b_X_round 27 = .ok (.iload_n 1, 1) := by decide +kernel
theorem d_X_round_28 : decode b_X_round 28 = .ok (.iaload, 1) := by decide +kernel
theorem d_X_round_29 : decode b_X_round 29 = .ok (.istore 4, 2) := by decide +kernel
theorem d_X_round_31 : decode b_X_round 31 = .ok (.aload_n 0, 1) := by decide +kernel
theorem d_X_round_32 : decode b_X_round 32 = .ok (.getfield 78, 3) := by decide +kernel
theorem d_X_round_35 : decode b_X_round 35 = .ok (.aload_n 0, 1) := by decide +kernel
theorem d_X_round_36 : decode b_X_round 36 = .ok (.getfield 11, 3) := by decide +kernel
theorem d_X_round_39 : decode b_X_round 39 = .ok (.iload_n 1, 1) := by decide +kernel
theorem d_X_round_40 : decode b_X_round 40 = .ok (.aaload, 1) := by decide +kernel
theorem d_X_round_41 : decode b_X_round 41 = .ok (.iload 4, 2) := by decide +kernel
theorem d_X_round_43 : decode b_X_round 43 = .ok (.aload_n 0, 1) := by decide +kernel
theorem d_X_round_44 : decode b_X_round 44 = .ok (.getfield 47, 3) := by decide +kernel
theorem d_X_round_47 : decode b_X_round 47 = .ok (.invokevirtual 301, 3) := by decide +kernel
theorem d_X_round_50 : decode b_X_round 50 = .ok (.aload_n 0, 1) := by decide +kernel
theorem d_X_round_51 : decode b_X_round 51 = .ok (.getfield 78, 3) := by decide +kernel
theorem d_X_round_54 : decode b_X_round 54 = .ok (.invokevirtual 305, 3) := by decide +kernel
theorem d_X_round_57 : decode b_X_round 57 = .ok (.aload_n 0, 1) := by decide +kernel
theorem d_X_round_58 : decode b_X_round 58 = .ok (.iload_n 2, 1) := by decide +kernel
theorem d_X_round_59 : decode b_X_round 59 = .ok (.iload 4, 2) := by decide +kernel
theorem d_X_round_61 : decode b_X_round 61 = .ok (.invokevirtual 120, 3) := by decide +kernel
theorem d_X_round_64 : decode b_X_round 64 = .ok (.iconst 0, 1) := by decide +kernel
theorem d_X_round_65 : decode b_X_round 65 = .ok (.istore 5, 2) := by decide +kernel
theorem d_X_round_67 : decode b_X_round 67 = .ok (.iload 5, 2) := by decide +kernel
theorem d_X_round_69 : decode b_X_round 69 = .ok (.iload 4, 2) := by decide +kernel
theorem d_X_round_71 : decode b_X_round 71 = .ok (.if_icmp .ge 28, 3) := by decide +kernel
theorem d_X_round_74 : decode b_X_round 74 = .ok (.aload_n 0, 1) := by decide +kernel
theorem d_X_round_75 : decode b_X_round 75 = .ok (.getfield 11, 3) := by decide +kernel
theorem d_X_round_78 : decode b_X_round 78 = .ok (.iload_n 2, 1) := by decide +kernel
theorem d_X_round_79 : decode b_X_round 79 = .ok (.aaload, 1) := by decide +kernel
theorem d_X_round_80 : decode b_X_round 80 = .ok (.iload 5, 2) := by decide +kernel
theorem d_X_round_82 : decode b_X_round 82 = .ok (.aload_n 0, 1) := by decide +kernel
theorem d_X_round_83 : decode b_X_round 83 = .ok (.getfield 78, 3) := by decide +kernel
theorem d_X_round_86 : decode b_X_round 86 = .ok (.getfield 308, 3) := by decide +kernel
theorem d_X_round_89 : decode b_X_round 89 = .ok (.iload 5, 2) := by decide +kernel
theorem d_X_round_91 : decode b_X_round 91 = .ok (.iaload, 1) := by decide +kernel
theorem d_X_round_92 : decode b_X_round 92 = .ok (.iastore, 1) := by decide +kernel
theorem d_X_round_93 : decode b_X_round 93 = .ok (.iinc 5 1, 3) := by decide +kernel
theorem d_X_round_96 : decode b_X_round 96 = .ok (.goto (-29), 3) := by decide +kernel
theorem d_X_round_99 : decode b_X_round 99 = .ok (.aload_n 0, 1) := by decide +kernel
theorem d_X_round_100 : decode b_X_round 100 = .ok (.getfield 78, 3) := by decide +kernel
theorem d_X_round_103 : decode b_X_round 103 = .ok (.getfield 311, 3) := by decide +kernel
theorem d_X_round_106 : decode b_X_round 106 = .ok (.ireturn, 1) := by decide +kernel
theorem d_X_post_0 : decode b_X_post 0 = .ok (.aload_n 0, 1) := by decide +kernel
theorem d_X_post_1 : decode b_X_post 1 = .ok (.iload_n 1, 1) := by decide +kernel
theorem d_X_post_2 : decode b_X_post 2 = .ok (.bipush 20, 2) := by decide +kernel
theorem d_X_post_4 : decode b_X_post 4 = .ok (.invokevirtual 298, 3) := by decide +kernel
theorem d_X_post_7 : decode b_X_post 7 = .ok (.istore_n 2, 1) := by decide +kernel
theorem d_X_post_8 : decode b_X_post 8 = .ok (.iload_n 2, 1) := by decide +kernel
theorem d_X_post_9 : decode b_X_post 9 = .ok (.ifCond .eq 5, 3) := by decide +kernel
theorem d_X_post_12 : decode b_X_post 12 = .ok (.iload_n 2, 1) := by decide +kernel
theorem d_X_post_13 : decode b_X_post 13 = .ok (.ireturn, 1) := by decide +kernel
theorem d_X_post_14 : decode b_X_post 14 = .ok (.aload_n 0, 1) := by decide +kernel
theorem d_X_post_15 : decode b_X_post 15 = .ok (.getfield 85, 3) := by decide +kernel
theorem d_X_post_18 : decode b_X_post 18 = .ok (.aload_n 0, 1) := by decide +kernel
theorem d_X_post_19 : decode b_X_post 19 = .ok (.getfield 47, 3) := by decide +kernel
theorem d_X_post_22 : decode b_X_post 22 = .ok (.invokevirtual 314, 3) := by decide +kernel
theorem d_X_post_25 : decode b_X_post 25 = .ok (.iconst 0, 1) := by decide +kernel
theorem d_X_post_26 : decode b_X_post 26 = .ok (.istore_n 3, 1) := by decide +kernel
theorem d_X_post_27 : decode b_X_post 27 = .ok (.ldc_w 317, 3) := by decide +kernel
theorem d_X_post_30 : decode b_X_post 30 = .ok (.istore 4, 2) := by decide +kernel
theorem d_X_post_32 : decode b_X_post 32 = .ok (.iconst 0, 1) := by decide +kernel
theorem d_X_post_33 : decode b_X_post 33 = .ok (.istore 5, 2) := by decide +kernel
theorem d_X_post_35 : decode b_X_post 35 = .ok (.iload 5, 2) := by decide +kernel
theorem d_X_post_37 : decode b_X_post 37 = .ok (.aload_n 0, 1) := by decide +kernel
theorem d_X_post_38 : decode b_X_post 38 = .ok (.getfield 85, 3) := by decide +kernel
theorem d_X_post_41 : decode b_X_post 41 = .ok (.getfield 318, 3) := by decide +kernel
theorem d_X_post_44 : decode b_X_post 44 = .ok (.if_icmp .ge 96, 3) := by decide +kernel
theorem d_X_post_47 : decode b_X_post 47 = .ok (.aload_n 0, 1) := by decide +kernel
theorem d_X_post_48 : decode b_X_post 48 = .ok (.getfield 85, 3) := by decide +kernel
theorem d_X_post_51 : decode b_X_post 51 = .ok (.getfield 319, 3) := by decide +kernel
theorem d_X_post_54 : decode b_X_post 54 = .ok (.iload 5, 2) := by decide +kernel
theorem d_X_post_56 : decode b_X_post 56 = .ok (.iaload, 1) := by decide +kernel
theorem d_X_post_57 : decode b_X_post 57 = .ok (.iconst 3, 1) := by decide +kernel
theorem d_X_post_58 : decode b_X_post 58 = .ok (.if_icmp .gt 82, 3) := by decide +kernel
theorem d_X_post_61 : decode b_X_post 61 = .ok (.iconst 0, 1) := by decide +kernel
theorem d_X_post_62 : decode b_X_post 62 = .ok (.istore 6, 2) := by decide +kernel
theorem d_X_post_64 : decode b_X_post 64 = .ok (.iconst 0, 1) := by decide +kernel
theorem d_X_post_65 : decode b_X_post 65 = .ok (.istore 7, 2) := by decide +kernel
theorem d_X_post_67 : decode b_X_post 67 = .ok (.iload 7, 2) := by decide +kernel
theorem d_X_post_69 : decode b_X_post 69 = .ok (.aload_n 0, 1) := by decide +kernel
theorem d_X_post_70 : decode b_X_post 70 = .ok (.getfield 14, 3) := by decide +kernel
theorem d_X_post_73 : decode b_X_post 73 = .ok (.iload_n 1, 1) := by decide +kernel
theorem d_X_post_74 : decode b_X_post 74 = .ok (.iaload, 1) := by decide +kernel
theorem d_X_post_75 : decode b_X_post 75 = .ok (.if_icmp .ge 37, 3) := by decide +kernel
theorem d_X_post_78 : decode b_X_post 78 = .ok (.iload 6, 2) := by decide +kernel
theorem d_X_post_80 : decode b_X_post 80 = .ok (.aload_n 0, 1) := by decide +kernel
theorem d_X_post_81 : decode b_X_post 81 = .ok (.aload_n 0, 1) := by decide +kernel
theorem d_X_post_82 : decode b_X_post 82 = .ok (.getfield 85, 3) := by decide +kernel
theorem d_X_post_85 : decode b_X_post 85 = .ok (.getfield 322, 3) := by decide +kernel
theorem d_X_post_88 : decode b_X_post 88 = .ok (.iload 5, 2) := by decide +kernel
theorem d_X_post_90 : decode b_X_post 90 = .ok (.iaload, 1) := by decide +kernel
theorem d_X_post_91 : decode b_X_post 91 = .ok (.aload_n 0, 1) := by decide +kernel
theorem d_X_post_92 : decode b_X_post 92 = .ok (.getfield 11, 3) := by decide +kernel
theorem d_X_post_95 : decode b_X_post 95 = .ok (.iload_n 1, 1) := by decide +kernel
theorem d_X_post_96 : decode b_X_post 96 = .ok (.aaload, 1) := by decide +kernel
theorem d_X_post_97 : decode b_X_post 97 = .ok (.iload 7, 2) := by decide +kernel
theorem d_X_post_99 : decode b_X_post 99 = .ok (.iaload, 1) := by decide +kernel
theorem d_X_post_100 : decode b_X_post 100 = .ok (.invokevirtual 247, 3) := by decide +kernel
theorem d_X_post_103 : decode b_X_post 103 = .ok (.iadd, 1) := by decide +kernel
theorem d_X_post_104 : decode b_X_post 104 = .ok (.istore 6, 2) := by decide +kernel
theorem d_X_post_106 : decode b_X_post 106 = .ok (.iinc 7 1, 3) := by decide +kernel
theorem d_X_post_109 : decode b_X_post 109 = .ok (.goto (-42), 3) := by decide +kernel
theorem d_X_post_112 : decode b_X_post 112 = .ok (.iload 6, 2) := by decide +kernel
theorem d_X_post_114 : decode b_X_post 114 = .ok (.iload 4, 2) := by decide +kernel
theorem d_X_post_116 : decode b_X_post 116 = .ok (.if_icmp .ge 18, 3) := by decide +kernel
theorem d_X_post_119 : decode b_X_post 119 = .ok (.iload 6, 2) := by decide +kernel
theorem d_X_post_121 : decode b_X_post 121 = .ok (.istore 4, 2) := by decide +kernel
theorem d_X_post_123 : decode b_X_post 123 = .ok (.aload_n 0, 1) := by decide +kernel
theorem d_X_post_124 : decode b_X_post 124 = .ok (.getfield 85, 3) := by decide +kernel
theorem d_X_post_127 : decode b_X_post 127 = .ok (.getfield 322, 3) := by decide +kernel
theorem d_X_post_130 : decode b_X_post 130 = .ok (.iload 5, 2) := by decide +kernel
theorem d_X_post_132 : decode b_X_post 132 = .ok (.iaload, 1) := by decide +kernel
theorem d_X_post_133 : decode b_X_post 133 = .ok (.istore_n 3, 1) := by decide +kernel
theorem d_X_post_134 : decode b_X_post 134 = .ok (.iinc 5 1, 3) := by decide +kernel
theorem d_X_post_137 : decode b_X_post 137 = .ok (.goto (-102), 3) := by decide +kernel
theorem d_X_post_140 : decode b_X_post 140 = .ok (.aload_n 0, 1) := by decide +kernel
theorem d_X_post_141 : decode b_X_post 141 = .ok (.iload 4, 2) := by decide +kernel
theorem d_X_post_143 : decode b_X_post 143 = .ok (.putfield 96, 3) := by decide +kernel
theorem d_X_post_146 : decode b_X_post 146 = .ok (.iload_n 3, 1) := by decide +kernel
theorem d_X_post_147 : decode b_X_post 147 = .ok (.ireturn, 1) := by decide +kernel
theorem d_X_burns_0 : decode b_X_burns 0 = .ok (.iload_n 2, 1) := by decide +kernel
theorem d_X_burns_1 : decode b_X_burns 1 = .ok (.ifCond .lt 8, 3) := by decide +kernel
theorem d_X_burns_4 : decode b_X_burns 4 = .ok (.iload_n 2, 1) := by decide +kernel
theorem d_X_burns_5 : decode b_X_burns 5 = .ok (.iconst 4, 1) := by decide +kernel
theorem d_X_burns_6 : decode b_X_burns 6 = .ok (.if_icmp .le 5, 3) := by decide +kernel
theorem d_X_burns_9 : decode b_X_burns 9 = .ok (.iconst (-1), 1) := by decide +kernel
theorem d_X_burns_10 : decode b_X_burns 10 = .ok (.ireturn, 1) := by decide +kernel
theorem d_X_burns_11 : decode b_X_burns 11 = .ok (.aload_n 0, 1) := by decide +kernel
theorem d_X_burns_12 : decode b_X_burns 12 = .ok (.iload_n 1, 1) := by decide +kernel
theorem d_X_burns_13 : decode b_X_burns 13 = .ok (.bipush 20, 2) := by decide +kernel
theorem d_X_burns_15 : decode b_X_burns 15 = .ok (.invokevirtual 298, 3) := by decide +kernel
theorem d_X_burns_18 : decode b_X_burns 18 = .ok (.istore_n 3, 1) := by decide +kernel
theorem d_X_burns_19 : decode b_X_burns 19 = .ok (.iload_n 3, 1) := by decide +kernel
theorem d_X_burns_20 : decode b_X_burns 20 = .ok (.ifCond .eq 5, 3) := by decide +kernel
theorem d_X_burns_23 : decode b_X_burns 23 = .ok (.iload_n 3, 1) := by decide +kernel
theorem d_X_burns_24 : decode b_X_burns 24 = .ok (.ireturn, 1) := by decide +kernel
theorem d_X_burns_25 : decode b_X_burns 25 = .ok (.aload_n 0, 1) := by decide +kernel
theorem d_X_burns_26 : decode b_X_burns 26 = .ok (.iload_n 1, 1) := by decide +kernel
theorem d_X_burns_27 : decode b_X_burns 27 = .ok (.invokevirtual 325, 3) := by decide +kernel
theorem d_X_burns_30 : decode b_X_burns 30 = .ok (.aload_n 0, 1) := by decide +kernel
theorem d_X_burns_31 : decode b_X_burns 31 = .ok (.getfield 85, 3) := by decide +kernel
theorem d_X_burns_34 : decode b_X_burns 34 = .ok (.bipush (-9), 2) := by decide +kernel
theorem d_X_burns_36 : decode b_X_burns 36 = .ok (.iload_n 2, 1) := by decide +kernel
theorem d_X_burns_37 : decode b_X_burns 37 = .ok (.invokevirtual 328, 3) := by decide +kernel
theorem d_X_burns_40 : decode b_X_burns 40 = .ok (.ireturn, 1) := by decide +kernel
theorem d_X_held_0 : decode b_X_held 0 = .ok (.aload_n 0, 1) := by decide +kernel
theorem d_X_held_1 : decode b_X_held 1 = .ok (.iload_n 1, 1) := by decide +kernel
theorem d_X_held_2 : decode b_X_held 2 = .ok (.bipush 20, 2) := by decide +kernel
theorem d_X_held_4 : decode b_X_held 4 = .ok (.invokevirtual 298, 3) := by decide +kernel
theorem d_X_held_7 : decode b_X_held 7 = .ok (.istore_n 2, 1) := by decide +kernel
theorem d_X_held_8 : decode b_X_held 8 = .ok (.iload_n 2, 1) := by decide +kernel
theorem d_X_held_9 : decode b_X_held 9 = .ok (.ifCond .eq 5, 3) := by decide +kernel
theorem d_X_held_12 : decode b_X_held 12 = .ok (.iload_n 2, 1) := by decide +kernel
theorem d_X_held_13 : decode b_X_held 13 = .ok (.ireturn, 1) := by decide +kernel
theorem d_X_held_14 : decode b_X_held 14 = .ok (.aload_n 0, 1) := by decide +kernel
theorem d_X_held_15 : decode b_X_held 15 = .ok (.iload_n 1, 1) := by decide +kernel
theorem d_X_held_16 : decode b_X_held 16 = .ok (.invokevirtual 325, 3) := by decide +kernel
theorem d_X_held_19 : decode b_X_held 19 = .ok (.aload_n 0, 1) := by decide +kernel
theorem d_X_held_20 : decode b_X_held 20 = .ok (.aload_n 0, 1) := by decide +kernel
theorem d_X_held_21 : decode b_X_held 21 = .ok (.getfield 85, 3) := by decide +kernel
theorem d_X_held_24 : decode b_X_held 24 = .ok (.bipush (-9), 2) := by decide +kernel
theorem d_X_held_26 : decode b_X_held 26 = .ok (.iconst 4, 1) := by decide +kernel
theorem d_X_held_27 : decode b_X_held 27 = .ok (.invokevirtual 328, 3) := by decide +kernel
theorem d_X_held_30 : decode b_X_held 30 = .ok (.putfield 96, 3) := by decide +kernel
theorem d_X_held_33 : decode b_X_held 33 = .ok (.aload_n 0, 1) := by decide +kernel
theorem d_X_held_34 : decode b_X_held 34 = .ok (.getfield 85, 3) := by decide +kernel
theorem d_X_held_37 : decode b_X_held 37 = .ok (.invokevirtual 331, 3) := by decide +kernel
theorem d_X_held_40 : decode b_X_held 40 = .ok (.ifCond .eq 7, 3) := by decide +kernel
theorem d_X_held_43 : decode b_X_held 43 = .ok (.iconst 0, 1) := by decide +kernel
theorem d_X_held_44 : decode b_X_held 44 = .ok (.goto 4, 3) := by decide +kernel
theorem d_X_held_47 : decode b_X_held 47 = .ok (.iconst 1, 1) := by decide +kernel
theorem d_X_held_48 : decode b_X_held 48 = .ok (.ireturn, 1) := by decide +kernel
theorem d_X_idle_0 : decode b_X_idle 0 = .ok (.aload_n 0, 1) := by decide +kernel
theorem d_X_idle_1 : decode b_X_idle 1 = .ok (.iload_n 1, 1) := by decide +kernel
theorem d_X_idle_2 : decode b_X_idle 2 = .ok (.bipush 20, 2) := by decide +kernel
theorem d_X_idle_4 : decode b_X_idle 4 = .ok (.invokevirtual 298, 3) := by decide +kernel
theorem d_X_idle_7 : decode b_X_idle 7 = .ok (.istore_n 2, 1) := by decide +kernel
theorem d_X_idle_8 : decode b_X_idle 8 = .ok (.iload_n 2, 1) := by decide +kernel
theorem d_X_idle_9 : decode b_X_idle 9 = .ok (.ifCond .eq 5, 3) := by decide +kernel
theorem d_X_idle_12 : decode b_X_idle 12 = .ok (.iload_n 2, 1) := by decide +kernel
theorem d_X_idle_13 : decode b_X_idle 13 = .ok (.ireturn, 1) := by decide +kernel
theorem d_X_idle_14 : decode b_X_idle 14 = .ok (.aload_n 0, 1) := by decide +kernel
theorem d_X_idle_15 : decode b_X_idle 15 = .ok (.iload_n 1, 1) := by decide +kernel
theorem d_X_idle_16 : decode b_X_idle 16 = .ok (.invokevirtual 325, 3) := by decide +kernel
theorem d_X_idle_19 : decode b_X_idle 19 = .ok (.aload_n 0, 1) := by decide +kernel
theorem d_X_idle_20 : decode b_X_idle 20 = .ok (.getfield 85, 3) := by decide +kernel
theorem d_X_idle_23 : decode b_X_idle 23 = .ok (.bipush (-9), 2) := by decide +kernel
theorem d_X_idle_25 : decode b_X_idle 25 = .ok (.iconst 4, 1) := by decide +kernel
theorem d_X_idle_26 : decode b_X_idle 26 = .ok (.invokevirtual 328, 3) := by decide +kernel
theorem d_X_idle_29 : decode b_X_idle 29 = .ok (.istore_n 3, 1) := by decide +kernel
theorem d_X_idle_30 : decode b_X_idle 30 = .ok (.iconst 0, 1) := by decide +kernel
theorem d_X_idle_31 : decode b_X_idle 31 = .ok (.istore 4, 2) := by decide +kernel
theorem d_X_idle_33 : decode b_X_idle 33 = .ok (.iload 4, 2) := by decide +kernel
theorem d_X_idle_35 : decode b_X_idle 35 = .ok (.aload_n 0, 1) := by decide +kernel
theorem d_X_idle_36 : decode b_X_idle 36 = .ok (.getfield 14, 3) := by decide +kernel
theorem d_X_idle_39 : decode b_X_idle 39 = .ok (.iload_n 1, 1) := by decide +kernel
theorem d_X_idle_40 : decode b_X_idle 40 = .ok (.iaload, 1) := by decide +kernel
theorem d_X_idle_41 : decode b_X_idle 41 = .ok (.if_icmp .ge 26, 3) := by decide +kernel
theorem d_X_idle_44 : decode b_X_idle 44 = .ok (.aload_n 0, 1) := by decide +kernel
theorem d_X_idle_45 : decode b_X_idle 45 = .ok (.getfield 85, 3) := by decide +kernel
theorem d_X_idle_48 : decode b_X_idle 48 = .ok (.iload 4, 2) := by decide +kernel
theorem d_X_idle_50 : decode b_X_idle 50 = .ok (.iconst 4, 1) := by decide +kernel
theorem d_X_idle_51 : decode b_X_idle 51 = .ok (.invokevirtual 328, 3) := by decide +kernel
theorem d_X_idle_54 : decode b_X_idle 54 = .ok (.iload_n 3, 1) := by decide +kernel
theorem d_X_idle_55 : decode b_X_idle 55 = .ok (.if_icmp .ne 6, 3) := by decide +kernel
theorem d_X_idle_58 : decode b_X_idle 58 = .ok (.iload 4, 2) := by decide +kernel
theorem d_X_idle_60 : decode b_X_idle 60 = .ok (.ireturn, 1) := by decide +kernel
theorem d_X_idle_61 : decode b_X_idle 61 = .ok (.iinc 4 1, 3) := by decide +kernel
theorem d_X_idle_64 : decode b_X_idle 64 = .ok (.goto (-31), 3) := by decide +kernel
theorem d_X_idle_67 : decode b_X_idle 67 = .ok (.bipush (-9), 2) := by decide +kernel
theorem d_X_idle_69 : decode b_X_idle 69 = .ok (.ireturn, 1) := by decide +kernel
theorem d_X_meet_0 : decode b_X_meet 0 = .ok (.aload_n 0, 1) := by decide +kernel
theorem d_X_meet_1 : decode b_X_meet 1 = .ok (.iload_n 1, 1) := by decide +kernel
theorem d_X_meet_2 : decode b_X_meet 2 = .ok (.invokevirtual 161, 3) := by decide +kernel
theorem d_X_meet_5 : decode b_X_meet 5 = .ok (.ifCond .eq 16, 3) := by decide +kernel
theorem d_X_meet_8 : decode b_X_meet 8 = .ok (.aload_n 0, 1) := by decide +kernel
theorem d_X_meet_9 : decode b_X_meet 9 = .ok (.iload_n 2, 1) := by decide +kernel
theorem d_X_meet_10 : decode b_X_meet 10 = .ok (.invokevirtual 161, 3) := by decide +kernel
theorem d_X_meet_13 : decode b_X_meet 13 = .ok (.ifCond .eq 8, 3) := by decide +kernel
theorem d_X_meet_16 : decode b_X_meet 16 = .ok (.iload_n 1, 1) := by decide +kernel
theorem d_X_meet_17 : decode b_X_meet 17 = .ok (.iload_n 2, 1) := by decide +kernel
theorem d_X_meet_18 : decode b_X_meet 18 = .ok (.if_icmp .ne 5, 3) := by decide +kernel
theorem d_X_meet_21 : decode b_X_meet 21 = .ok (.iconst (-1), 1) := by decide +kernel
theorem d_X_meet_22 : decode b_X_meet 22 = .ok (.ireturn, 1) := by decide +kernel
theorem d_X_meet_23 : decode b_X_meet 23 = .ok (.aload_n 0, 1) := by decide +kernel
theorem d_X_meet_24 : decode b_X_meet 24 = .ok (.getfield 36, 3) := by decide +kernel
theorem d_X_meet_27 : decode b_X_meet 27 = .ok (.iload_n 1, 1) := by decide +kernel
theorem d_X_meet_28 : decode b_X_meet 28 = .ok (.aload_n 0, 1) := by decide +kernel
theorem d_X_meet_29 : decode b_X_meet 29 = .ok (.getfield 54, 3) := by decide +kernel
theorem d_X_meet_32 : decode b_X_meet 32 = .ok (.invokevirtual 167, 3) := by decide +kernel
theorem d_X_meet_35 : decode b_X_meet 35 = .ok (.aload_n 0, 1) := by decide +kernel
theorem d_X_meet_36 : decode b_X_meet 36 = .ok (.getfield 36, 3) := by decide +kernel
theorem d_X_meet_39 : decode b_X_meet 39 = .ok (.iload_n 2, 1) := by decide +kernel
theorem d_X_meet_40 : decode b_X_meet 40 = .ok (.aload_n 0, 1) := by decide +kernel
theorem d_X_meet_41 : decode b_X_meet 41 = .ok (.getfield 58, 3) := by decide +kernel
theorem d_X_meet_44 : decode b_X_meet 44 = .ok (.invokevirtual 167, 3) := by decide +kernel
theorem d_X_meet_47 : decode b_X_meet 47 = .ok (.iconst 0, 1) := by decide +kernel
theorem d_X_meet_48 : decode b_X_meet 48 = .ok (.istore_n 3, 1) := by decide +kernel
theorem d_X_meet_49 : decode b_X_meet 49 = .ok (.iload_n 3, 1) := by decide +kernel
theorem d_X_meet_50 : decode b_X_meet 50 = .ok (.bipush 40, 2) := by decide +kernel
theorem d_X_meet_52 : decode b_X_meet 52 = .ok (.if_icmp .gt 61, 3) := by decide +kernel
theorem d_X_meet_55 : decode b_X_meet 55 = .ok (.aload_n 0, 1) := by decide +kernel
theorem d_X_meet_56 : decode b_X_meet 56 = .ok (.getfield 54, 3) := by decide +kernel
theorem d_X_meet_59 : decode b_X_meet 59 = .ok (.getfield 184, 3) := by decide +kernel
theorem d_X_meet_62 : decode b_X_meet 62 = .ok (.aload_n 0, 1) := by decide +kernel
theorem d_X_meet_63 : decode b_X_meet 63 = .ok (.getfield 58, 3) := by decide +kernel
theorem d_X_meet_66 : decode b_X_meet 66 = .ok (.getfield 184, 3) := by decide +kernel
theorem d_X_meet_69 : decode b_X_meet 69 = .ok (.if_icmp .ne 16, 3) := by decide +kernel
theorem d_X_meet_72 : decode b_X_meet 72 = .ok (.aload_n 0, 1) := by decide +kernel
theorem d_X_meet_73 : decode b_X_meet 73 = .ok (.aload_n 0, 1) := by decide +kernel
theorem d_X_meet_74 : decode b_X_meet 74 = .ok (.getfield 54, 3) := by decide +kernel
theorem d_X_meet_77 : decode b_X_meet 77 = .ok (.getfield 184, 3) := by decide +kernel
theorem d_X_meet_80 : decode b_X_meet 80 = .ok (.putfield 96, 3) := by decide +kernel
theorem d_X_meet_83 : decode b_X_meet 83 = .ok (.iload_n 3, 1) := by decide +kernel
theorem d_X_meet_84 : decode b_X_meet 84 = .ok (.ireturn, 1) := by decide +kernel
theorem d_X_meet_85 : decode b_X_meet 85 = .ok (.aload_n 0, 1) := by decide +kernel
theorem d_X_meet_86 : decode b_X_meet 86 = .ok (.getfield 54, 3) := by decide +kernel
theorem d_X_meet_89 : decode b_X_meet 89 = .ok (.aload_n 0, 1) := by decide +kernel
theorem d_X_meet_90 : decode b_X_meet 90 = .ok (.getfield 47, 3) := by decide +kernel
theorem d_X_meet_93 : decode b_X_meet 93 = .ok (.invokevirtual 200, 3) := by decide +kernel
theorem d_X_meet_96 : decode b_X_meet 96 = .ok (.aload_n 0, 1) := by decide +kernel
theorem d_X_meet_97 : decode b_X_meet 97 = .ok (.getfield 58, 3) := by decide +kernel
theorem d_X_meet_100 : decode b_X_meet 100 = .ok (.aload_n 0, 1) := by decide +kernel
theorem d_X_meet_101 : decode b_X_meet 101 = .ok (.getfield 47, 3) := by decide +kernel
theorem d_X_meet_104 : decode b_X_meet 104 = .ok (.invokevirtual 200, 3) := by decide +kernel
theorem d_X_meet_107 : decode b_X_meet 107 = .ok (.iinc 3 1, 3) := by decide +kernel
theorem d_X_meet_110 : decode b_X_meet 110 = .ok (.goto (-61), 3) := by decide +kernel
theorem d_X_meet_113 : decode b_X_meet 113 = .ok (.bipush (-9), 2) := by decide +kernel
theorem d_X_meet_115 : decode b_X_meet 115 = .ok (.ireturn, 1) := by decide +kernel
theorem d_X_part_0 : decode b_X_part 0 = .ok (.aload_n 0, 1) := by decide +kernel
theorem d_X_part_1 : decode b_X_part 1 = .ok (.iload_n 1, 1) := by decide +kernel
theorem d_X_part_2 : decode b_X_part 2 = .ok (.invokevirtual 161, 3) := by decide +kernel
theorem d_X_part_5 : decode b_X_part 5 = .ok (.ifCond .eq 26, 3) := by decide +kernel
theorem d_X_part_8 : decode b_X_part 8 = .ok (.aload_n 0, 1) := by decide +kernel
theorem d_X_part_9 : decode b_X_part 9 = .ok (.iload_n 2, 1) := by decide +kernel
theorem d_X_part_10 : decode b_X_part 10 = .ok (.invokevirtual 161, 3) := by decide +kernel
theorem d_X_part_13 : decode b_X_part 13 = .ok (.ifCond .eq 18, 3) := by decide +kernel
theorem d_X_part_16 : decode b_X_part 16 = .ok (.iload_n 1, 1) := by decide +kernel
theorem d_X_part_17 : decode b_X_part 17 = .ok (.iload_n 2, 1) := by decide +kernel
theorem d_X_part_18 : decode b_X_part 18 = .ok (.if_icmp .eq 13, 3) := by decide +kernel
theorem d_X_part_21 : decode b_X_part 21 = .ok (.iload_n 3, 1) := by decide +kernel
theorem d_X_part_22 : decode b_X_part 22 = .ok (.ifCond .lt 9, 3) := by decide +kernel
theorem d_X_part_25 : decode b_X_part 25 = .ok (.iload_n 3, 1) := by decide +kernel
theorem d_X_part_26 : decode b_X_part 26 = .ok (.bipush 40, 2) := by decide +kernel
theorem d_X_part_28 : decode b_X_part 28 = .ok (.if_icmp .le 5, 3) := by decide +kernel
theorem d_X_part_31 : decode b_X_part 31 = .ok (.iconst (-1), 1) := by decide +kernel
theorem d_X_part_32 : decode b_X_part 32 = .ok (.ireturn, 1) := by decide +kernel
theorem d_X_part_33 : decode b_X_part 33 = .ok (.aload_n 0, 1) := by decide +kernel
theorem d_X_part_34 : decode b_X_part 34 = .ok (.getfield 36, 3) := by decide +kernel
theorem d_X_part_37 : decode b_X_part 37 = .ok (.iload_n 1, 1) := by decide +kernel
theorem d_X_part_38 : decode b_X_part 38 = .ok (.aload_n 0, 1) := by decide +kernel
theorem d_X_part_39 : decode b_X_part 39 = .ok (.getfield 54, 3) := by decide +kernel
theorem d_X_part_42 : decode b_X_part 42 = .ok (.invokevirtual 167, 3) := by decide +kernel
theorem d_X_part_45 : decode b_X_part 45 = .ok (.aload_n 0, 1) := by decide +kernel
theorem d_X_part_46 : decode b_X_part 46 = .ok (.getfield 36, 3) := by decide +kernel
theorem d_X_part_49 : decode b_X_part 49 = .ok (.iload_n 2, 1) := by decide +kernel
theorem d_X_part_50 : decode b_X_part 50 = .ok (.aload_n 0, 1) := by decide +kernel
theorem d_X_part_51 : decode b_X_part 51 = .ok (.getfield 58, 3) := by decide +kernel
theorem d_X_part_54 : decode b_X_part 54 = .ok (.invokevirtual 167, 3) := by decide +kernel
theorem d_X_part_57 : decode b_X_part 57 = .ok (.iconst 0, 1) := by decide +kernel
theorem d_X_part_58 : decode b_X_part 58 = .ok (.istore 4, 2) := by decide +kernel
theorem d_X_part_60 : decode b_X_part 60 = .ok (.iload 4, 2) := by decide +kernel
theorem d_X_part_62 : decode b_X_part 62 = .ok (.iload_n 3, 1) := by decide +kernel
theorem d_X_part_63 : decode b_X_part 63 = .ok (.if_icmp .ge 31, 3) := by decide +kernel
theorem d_X_part_66 : decode b_X_part 66 = .ok (.aload_n 0, 1) := by decide +kernel
theorem d_X_part_67 : decode b_X_part 67 = .ok (.getfield 54, 3) := by decide +kernel
theorem d_X_part_70 : decode b_X_part 70 = .ok (.aload_n 0, 1) := by decide +kernel
theorem d_X_part_71 : decode b_X_part 71 = .ok (.getfield 47, 3) := by decide +kernel
theorem d_X_part_74 : decode b_X_part 74 = .ok (.invokevirtual 200, 3) := by decide +kernel
theorem d_X_part_77 : decode b_X_part 77 = .ok (.aload_n 0, 1) := by decide +kernel
theorem d_X_part_78 : decode b_X_part 78 = .ok (.getfield 58, 3) := by decide +kernel
theorem d_X_part_81 : decode b_X_part 81 = .ok (.aload_n 0, 1) := by decide +kernel
theorem d_X_part_82 : decode b_X_part 82 = .ok (.getfield 47, 3) := by decide +kernel
theorem d_X_part_85 : decode b_X_part 85 = .ok (.invokevirtual 200, 3) := by decide +kernel
theorem d_X_part_88 : decode b_X_part 88 = .ok (.iinc 4 1, 3) := by decide +kernel
theorem d_X_part_91 : decode b_X_part 91 = .ok (.goto (-31), 3) := by decide +kernel
theorem d_X_part_94 : decode b_X_part 94 = .ok (.aload_n 0, 1) := by decide +kernel
theorem d_X_part_95 : decode b_X_part 95 = .ok (.aload_n 0, 1) := by decide +kernel
theorem d_X_part_96 : decode b_X_part 96 = .ok (.getfield 54, 3) := by decide +kernel
theorem d_X_part_99 : decode b_X_part 99 = .ok (.getfield 184, 3) := by decide +kernel
theorem d_X_part_102 : decode b_X_part 102 = .ok (.aload_n 0, 1) := by decide +kernel
theorem d_X_part_103 : decode b_X_part 103 = .ok (.getfield 58, 3) := by decide +kernel
theorem d_X_part_106 : decode b_X_part 106 = .ok (.getfield 184, 3) := by decide +kernel
theorem d_X_part_109 : decode b_X_part 109 = .ok (.invokevirtual 247, 3) := by decide +kernel
theorem d_X_part_112 : decode b_X_part 112 = .ok (.ireturn, 1) := by decide +kernel
theorem d_X_drunk_0 : decode b_X_drunk 0 = .ok (.iload_n 1, 1) := by decide +kernel
theorem d_X_drunk_1 : decode b_X_drunk 1 = .ok (.iconst 1, 1) := by decide +kernel
theorem d_X_drunk_2 : decode b_X_drunk 2 = .ok (.if_icmp .lt 21, 3) := by decide +kernel
theorem d_X_drunk_5 : decode b_X_drunk 5 = .ok (.iload_n 1, 1) := by decide +kernel
theorem d_X_drunk_6 : decode b_X_drunk 6 = .ok (.bipush 60, 2) := by decide +kernel
theorem d_X_drunk_8 : decode b_X_drunk 8 = .ok (.if_icmp .gt 15, 3) := by decide +kernel
theorem d_X_drunk_11 : decode b_X_drunk 11 = .ok (.iload_n 2, 1) := by decide +kernel
theorem d_X_drunk_12 : decode b_X_drunk 12 = .ok (.iconst 1, 1) := by decide +kernel
theorem d_X_drunk_13 : decode b_X_drunk 13 = .ok (.if_icmp .lt 10, 3) := by decide +kernel
theorem d_X_drunk_16 : decode b_X_drunk 16 = .ok (.iload_n 2, 1) := by decide +kernel
theorem d_X_drunk_17 : decode b_X_drunk 17 = .ok (.ldc_w 335, 3) := by decide +kernel
theorem d_X_drunk_20 : decode b_X_drunk 20 = .ok (.if_icmp .lt 5, 3) := by decide +kernel
theorem d_X_drunk_23 : decode b_X_drunk 23 = .ok (.iconst (-1), 1) := by decide +kernel
theorem d_X_drunk_24 : decode b_X_drunk 24 = .ok (.ireturn, 1) := by decide +kernel
theorem d_X_drunk_25 : decode b_X_drunk 25 = .ok (.iload_n 2, 1) := by decide +kernel
theorem d_X_drunk_26 : decode b_X_drunk 26 = .ok (.i2l, 1) := by decide +kernel
theorem d_X_drunk_27 : decode b_X_drunk 27 = .ok (.lstore_n 3, 1) := by decide +kernel
theorem d_X_drunk_28 : decode b_X_drunk 28 = .ok (.iconst 0, 1) := by decide +kernel
theorem d_X_drunk_29 : decode b_X_drunk 29 = .ok (.istore 5, 2) := by decide +kernel
theorem d_X_drunk_31 : decode b_X_drunk 31 = .ok (.aload_n 0, 1) := by decide +kernel
theorem d_X_drunk_32 : decode b_X_drunk 32 = .ok (.getfield 47, 3) := by decide +kernel
theorem d_X_drunk_35 : decode b_X_drunk 35 = .ok (.invokevirtual 241, 3) := by decide +kernel
theorem d_X_drunk_38 : decode b_X_drunk 38 = .ok (.iconst 0, 1) := by decide +kernel
theorem d_X_drunk_39 : decode b_X_drunk 39 = .ok (.istore 6, 2) := by decide +kernel
theorem d_X_drunk_41 : decode b_X_drunk 41 = .ok (.iload 6, 2) := by decide +kernel
theorem d_X_drunk_43 : decode b_X_drunk 43 = .ok (.iload_n 1, 1) := by decide +kernel
theorem d_X_drunk_44 : decode b_X_drunk 44 = .ok (.if_icmp .ge 48, 3) := by decide +kernel
theorem d_X_drunk_47 : decode b_X_drunk 47 = .ok (.lload_n 3, 1) := by decide +kernel
theorem d_X_drunk_48 : decode b_X_drunk 48 = .ok (.ldc2_w 336, 3) := by decide +kernel
theorem d_X_drunk_51 : decode b_X_drunk 51 = .ok (.lmul, 1) := by decide +kernel
theorem d_X_drunk_52 : decode b_X_drunk 52 = .ok (.ldc2_w 338, 3) := by decide +kernel
theorem d_X_drunk_55 : decode b_X_drunk 55 = .ok (.lrem, 1) := by decide +kernel
theorem d_X_drunk_56 : decode b_X_drunk 56 = .ok (.lstore_n 3, 1) := by decide +kernel
theorem d_X_drunk_57 : decode b_X_drunk 57 = .ok (.aload_n 0, 1) := by decide +kernel
theorem d_X_drunk_58 : decode b_X_drunk 58 = .ok (.getfield 47, 3) := by decide +kernel
theorem d_X_drunk_61 : decode b_X_drunk 61 = .ok (.lload_n 3, 1) := by decide +kernel
theorem d_X_drunk_62 : decode b_X_drunk 62 = .ok (.ldc2_w 286, 3) := by decide +kernel
theorem d_X_drunk_65 : decode b_X_drunk 65 = .ok (.lrem, 1) := by decide +kernel
theorem d_X_drunk_66 : decode b_X_drunk 66 = .ok (.l2i, 1) := by decide +kernel
theorem d_X_drunk_67 : decode b_X_drunk 67 = .ok (.invokevirtual 340, 3) := by decide +kernel
theorem d_X_drunk_70 : decode b_X_drunk 70 = .ok (.ifCond .eq 16, 3) := by decide +kernel
theorem d_X_drunk_73 : decode b_X_drunk 73 = .ok (.aload_n 0, 1) := by decide +kernel
theorem d_X_drunk_74 : decode b_X_drunk 74 = .ok (.getfield 47, 3) := by decide +kernel
theorem d_X_drunk_77 : decode b_X_drunk 77 = .ok (.getfield 204, 3) := by decide +kernel
theorem d_X_drunk_80 : decode b_X_drunk 80 = .ok (.ifCond .ne 6, 3) := by decide +kernel
theorem d_X_drunk_83 : decode b_X_drunk 83 = .ok (.iinc 5 1, 3) := by decide +kernel
theorem d_X_drunk_86 : decode b_X_drunk 86 = .ok (.iinc 6 1, 3) := by decide +kernel
theorem d_X_drunk_89 : decode b_X_drunk 89 = .ok (.goto (-48), 3) := by decide +kernel
theorem d_X_drunk_92 : decode b_X_drunk 92 = .ok (.aload_n 0, 1) := by decide +kernel
theorem d_X_drunk_93 : decode b_X_drunk 93 = .ok (.iload 5, 2) := by decide +kernel
theorem d_X_drunk_95 : decode b_X_drunk 95 = .ok (.putfield 96, 3) := by decide +kernel
theorem d_X_drunk_98 : decode b_X_drunk 98 = .ok (.aload_n 0, 1) := by decide +kernel
theorem d_X_drunk_99 : decode b_X_drunk 99 = .ok (.getfield 47, 3) := by decide +kernel
theorem d_X_drunk_102 : decode b_X_drunk 102 = .ok (.invokevirtual 238, 3) := by decide +kernel
theorem d_X_drunk_105 : decode b_X_drunk 105 = .ok (.ireturn, 1) := by decide +kernel
theorem d_X_asked_0 : decode b_X_asked 0 = .ok (.aload_n 0, 1) := by decide +kernel
theorem d_X_asked_1 : decode b_X_asked 1 = .ok (.getfield 96, 3) := by decide +kernel
theorem d_X_asked_4 : decode b_X_asked 4 = .ok (.ireturn, 1) := by decide +kernel
theorem d_X_upper_0 : decode b_X_upper 0 = .ok (.aload_n 0, 1) := by decide +kernel
theorem d_X_upper_1 : decode b_X_upper 1 = .ok (.getfield 99, 3) := by decide +kernel
theorem d_X_upper_4 : decode b_X_upper 4 = .ok (.lreturn, 1) := by decide +kernel
theorem d_X_lower_0 : decode b_X_lower 0 = .ok (.aload_n 0, 1) := by decide +kernel
theorem d_X_lower_1 : decode b_X_lower 1 = .ok (.getfield 103, 3) := by decide +kernel
theorem d_X_lower_4 : decode b_X_lower 4 = .ok (.lreturn, 1) := by decide +kernel
theorem d_X_count_0 : decode b_X_count 0 = .ok (.iload_n 1, 1) := by decide +kernel
theorem d_X_count_1 : decode b_X_count 1 = .ok (.tableswitch 110 0 7 #[47, 55, 63, 72, 81, 89, 94, 102], 47) := by decide +kernel
theorem d_X_count_48 : decode b_X_count 48 = .ok (.aload_n 0, 1) := by decide +kernel
theorem d_X_count_49 : decode b_X_count 49 = .ok (.getfield 36, 3) := by decide +kernel
theorem d_X_count_52 : decode b_X_count 52 = .ok (.getfield 158, 3) := by decide +kernel
theorem d_X_count_55 : decode b_X_count 55 = .ok (.ireturn, 1) := by decide +kernel
theorem d_X_count_56 : decode b_X_count 56 = .ok (.aload_n 0, 1) := by decide +kernel
theorem d_X_count_57 : decode b_X_count 57 = .ok (.getfield 36, 3) := by decide +kernel
theorem d_X_count_60 : decode b_X_count 60 = .ok (.getfield 223, 3) := by decide +kernel
theorem d_X_count_63 : decode b_X_count 63 = .ok (.ireturn, 1) := by decide +kernel
theorem d_X_count_64 : decode b_X_count 64 = .ok (.aload_n 0, 1) := by decide +kernel
theorem d_X_count_65 : decode b_X_count 65 = .ok (.getfield 36, 3) := by decide +kernel
theorem d_X_count_68 : decode b_X_count 68 = .ok (.iconst 1, 1) := by decide +kernel
theorem d_X_count_69 : decode b_X_count 69 = .ok (.invokevirtual 343, 3) := by decide +kernel
theorem d_X_count_72 : decode b_X_count 72 = .ok (.ireturn, 1) := by decide +kernel
theorem d_X_count_73 : decode b_X_count 73 = .ok (.aload_n 0, 1) := by decide +kernel
theorem d_X_count_74 : decode b_X_count 74 = .ok (.getfield 36, 3) := by decide +kernel
theorem d_X_count_77 : decode b_X_count 77 = .ok (.iconst 2, 1) := by decide +kernel
theorem d_X_count_78 : decode b_X_count 78 = .ok (.invokevirtual 343, 3) := by decide +kernel
theorem d_X_count_81 : decode b_X_count 81 = .ok (.ireturn, 1) := by decide +kernel
theorem d_X_count_82 : decode b_X_count 82 = .ok (.aload_n 0, 1) := by decide +kernel
theorem d_X_count_83 : decode b_X_count 83 = .ok (.getfield 36, 3) := by decide +kernel
theorem d_X_count_86 : decode b_X_count 86 = .ok (.invokevirtual 346, 3) := by decide +kernel
theorem d_X_count_89 : decode b_X_count 89 = .ok (.ireturn, 1) := by decide +kernel
theorem d_X_count_90 : decode b_X_count 90 = .ok (.aload_n 0, 1) := by decide +kernel
theorem d_X_count_91 : decode b_X_count 91 = .ok (.invokevirtual 349, 3) := by decide +kernel
theorem d_X_count_94 : decode b_X_count 94 = .ok (.ireturn, 1) := by decide +kernel
theorem d_X_count_95 : decode b_X_count 95 = .ok (.aload_n 0, 1) := by decide +kernel
theorem d_X_count_96 : decode b_X_count 96 = .ok (.getfield 14, 3) := by decide +kernel
theorem d_X_count_99 : decode b_X_count 99 = .ok (.invokestatic 352, 3) := by decide +kernel
theorem d_X_count_102 : decode b_X_count 102 = .ok (.ireturn, 1) := by decide +kernel
theorem d_X_count_103 : decode b_X_count 103 = .ok (.aload_n 0, 1) := by decide +kernel
theorem d_X_count_104 : decode b_X_count 104 = .ok (.getfield 23, 3) := by decide +kernel
theorem d_X_count_107 : decode b_X_count 107 = .ok (.invokestatic 352, 3) := by decide +kernel
theorem d_X_count_110 : decode b_X_count 110 = .ok (.ireturn, 1) := by decide +kernel
theorem d_X_count_111 : decode b_X_count 111 = .ok (.iconst (-1), 1) := by decide +kernel
theorem d_X_count_112 : decode b_X_count 112 = .ok (.ireturn, 1) := by decide +kernel
theorem d_X_finding_0 : decode b_X_finding 0 = .ok (.aload_n 0, 1) := by decide +kernel
theorem d_X_finding_1 : decode b_X_finding 1 = .ok (.getfield 92, 3) := by decide +kernel
theorem d_X_finding_4 : decode b_X_finding 4 = .ok (.ireturn, 1) := by decide +kernel
theorem d_X_findings_0 : decode b_X_findings 0 = .ok (.iload_n 1, 1) := by decide +kernel
theorem d_X_findings_1 : decode b_X_findings 1 = .ok (.iconst 1, 1) := by decide +kernel
theorem d_X_findings_2 : decode b_X_findings 2 = .ok (.if_icmp .lt 8, 3) := by decide +kernel
theorem d_X_findings_5 : decode b_X_findings 5 = .ok (.iload_n 1, 1) := by decide +kernel
theorem d_X_findings_6 : decode b_X_findings 6 = .ok (.iconst 5, 1) := by decide +kernel
theorem d_X_findings_7 : decode b_X_findings 7 = .ok (.if_icmp .le 5, 3) := by decide +kernel
theorem d_X_findings_10 : decode b_X_findings 10 = .ok (.iconst (-1), 1) := by decide +kernel
theorem d_X_findings_11 : decode b_X_findings 11 = .ok (.ireturn, 1) := by decide +kernel
theorem d_X_findings_12 : decode b_X_findings 12 = .ok (.aload_n 0, 1) := by decide +kernel
theorem d_X_findings_13 : decode b_X_findings 13 = .ok (.getfield 89, 3) := by decide +kernel
theorem d_X_findings_16 : decode b_X_findings 16 = .ok (.iload_n 1, 1) := by decide +kernel
theorem d_X_findings_17 : decode b_X_findings 17 = .ok (.iaload, 1) := by decide +kernel
theorem d_X_findings_18 : decode b_X_findings 18 = .ok (.ireturn, 1) := by decide +kernel
theorem d_X_digest_0 : decode b_X_digest 0 = .ok (.ldc2_w 356, 3) := by decide +kernel
theorem d_X_digest_3 : decode b_X_digest 3 = .ok (.lstore_n 1, 1) := by decide +kernel
theorem d_X_digest_4 : decode b_X_digest 4 = .ok (.iconst 0, 1) := by decide +kernel
theorem d_X_digest_5 : decode b_X_digest 5 = .ok (.istore_n 3, 1) := by decide +kernel
theorem d_X_digest_6 : decode b_X_digest 6 = .ok (.iload_n 3, 1) := by decide +kernel
theorem d_X_digest_7 : decode b_X_digest 7 = .ok (.bipush 8, 2) := by decide +kernel
theorem d_X_digest_9 : decode b_X_digest 9 = .ok (.if_icmp .ge 22, 3) := by decide +kernel
theorem d_X_digest_12 : decode b_X_digest 12 = .ok (.ldc2_w 358, 3) := by decide +kernel
theorem d_X_digest_15 : decode b_X_digest 15 = .ok (.lload_n 1, 1) := by decide +kernel
theorem d_X_digest_16 : decode b_X_digest 16 = .ok (.lmul, 1) := by decide +kernel
theorem d_X_digest_17 : decode b_X_digest 17 = .ok (.aload_n 0, 1) := by decide +kernel
theorem d_X_digest_18 : decode b_X_digest 18 = .ok (.iload_n 3, 1) := by decide +kernel
theorem d_X_digest_19 : decode b_X_digest 19 = .ok (.invokevirtual 360, 3) := by decide +kernel
theorem d_X_digest_22 : decode b_X_digest 22 = .ok (.i2l, 1) := by decide +kernel
theorem d_X_digest_23 : decode b_X_digest 23 = .ok (.ladd, 1) := by decide +kernel
theorem d_X_digest_24 : decode b_X_digest 24 = .ok (.lstore_n 1, 1) := by decide +kernel
theorem d_X_digest_25 : decode b_X_digest 25 = .ok (.iinc 3 1, 3) := by decide +kernel
theorem d_X_digest_28 : decode b_X_digest 28 = .ok (.goto (-22), 3) := by decide +kernel
theorem d_X_digest_31 : decode b_X_digest 31 = .ok (.iconst 0, 1) := by decide +kernel
theorem d_X_digest_32 : decode b_X_digest 32 = .ok (.istore_n 3, 1) := by decide +kernel
theorem d_X_digest_33 : decode b_X_digest 33 = .ok (.iload_n 3, 1) := by decide +kernel
theorem d_X_digest_34 : decode b_X_digest 34 = .ok (.aload_n 0, 1) := by decide +kernel
theorem d_X_digest_35 : decode b_X_digest 35 = .ok (.getfield 36, 3) := by decide +kernel
theorem d_X_digest_38 : decode b_X_digest 38 = .ok (.getfield 158, 3) := by decide +kernel
theorem d_X_digest_41 : decode b_X_digest 41 = .ok (.if_icmp .ge 39, 3) := by decide +kernel
theorem d_X_digest_44 : decode b_X_digest 44 = .ok (.iconst 0, 1) := by decide +kernel
theorem d_X_digest_45 : decode b_X_digest 45 = .ok (.istore 4, 2) := by decide +kernel
theorem d_X_digest_47 : decode b_X_digest 47 = .ok (.iload 4, 2) := by decide +kernel
theorem d_X_digest_49 : decode b_X_digest 49 = .ok (.iconst 5, 1) := by decide +kernel
theorem d_X_digest_50 : decode b_X_digest 50 = .ok (.if_icmp .ge 24, 3) := by decide +kernel
theorem d_X_digest_53 : decode b_X_digest 53 = .ok (.ldc2_w 358, 3) := by decide +kernel
theorem d_X_digest_56 : decode b_X_digest 56 = .ok (.lload_n 1, 1) := by decide +kernel
theorem d_X_digest_57 : decode b_X_digest 57 = .ok (.lmul, 1) := by decide +kernel
theorem d_X_digest_58 : decode b_X_digest 58 = .ok (.aload_n 0, 1) := by decide +kernel
theorem d_X_digest_59 : decode b_X_digest 59 = .ok (.iload_n 3, 1) := by decide +kernel
theorem d_X_digest_60 : decode b_X_digest 60 = .ok (.iload 4, 2) := by decide +kernel
theorem d_X_digest_62 : decode b_X_digest 62 = .ok (.invokevirtual 164, 3) := by decide +kernel
theorem d_X_digest_65 : decode b_X_digest 65 = .ok (.i2l, 1) := by decide +kernel
theorem d_X_digest_66 : decode b_X_digest 66 = .ok (.ladd, 1) := by decide +kernel
theorem d_X_digest_67 : decode b_X_digest 67 = .ok (.lstore_n 1, 1) := by decide +kernel
theorem d_X_digest_68 : decode b_X_digest 68 = .ok (.iinc 4 1, 3) := by decide +kernel
theorem d_X_digest_71 : decode b_X_digest 71 = .ok (.goto (-24), 3) := by decide +kernel
theorem d_X_digest_74 : decode b_X_digest 74 = .ok (.iinc 3 1, 3) := by decide +kernel
theorem d_X_digest_77 : decode b_X_digest 77 = .ok (.goto (-44), 3) := by decide +kernel
theorem d_X_digest_80 : decode b_X_digest 80 = .ok (.iconst 0, 1) := by decide +kernel
theorem d_X_digest_81 : decode b_X_digest 81 = .ok (.istore_n 3, 1) := by decide +kernel
theorem d_X_digest_82 : decode b_X_digest 82 = .ok (.iload_n 3, 1) := by decide +kernel
theorem d_X_digest_83 : decode b_X_digest 83 = .ok (.iconst 3, 1) := by decide +kernel
theorem d_X_digest_84 : decode b_X_digest 84 = .ok (.if_icmp .ge 42, 3) := by decide +kernel
theorem d_X_digest_87 : decode b_X_digest 87 = .ok (.ldc2_w 358, 3) := by decide +kernel
theorem d_X_digest_90 : decode b_X_digest 90 = .ok (.lload_n 1, 1) := by decide +kernel
theorem d_X_digest_91 : decode b_X_digest 91 = .ok (.lmul, 1) := by decide +kernel
theorem d_X_digest_92 : decode b_X_digest 92 = .ok (.aload_n 0, 1) := by decide +kernel
theorem d_X_digest_93 : decode b_X_digest 93 = .ok (.getfield 40, 3) := by decide +kernel
theorem d_X_digest_96 : decode b_X_digest 96 = .ok (.iload_n 3, 1) := by decide +kernel
theorem d_X_digest_97 : decode b_X_digest 97 = .ok (.aaload, 1) := by decide +kernel
theorem d_X_digest_98 : decode b_X_digest 98 = .ok (.getfield 158, 3) := by decide +kernel
theorem d_X_digest_101 : decode b_X_digest 101 = .ok (.ifCond .ne 7, 3) := by decide +kernel
theorem d_X_digest_104 : decode b_X_digest 104 = .ok (.iconst (-1), 1) := by decide +kernel
theorem d_X_digest_105 : decode b_X_digest 105 = .ok (.goto 12, 3) := by decide +kernel
theorem d_X_digest_108 : decode b_X_digest 108 = .ok (.aload_n 0, 1) := by decide +kernel
theorem d_X_digest_109 : decode b_X_digest 109 = .ok (.getfield 40, 3) := by decide +kernel
theorem d_X_digest_112 : decode b_X_digest 112 = .ok (.iload_n 3, 1) := by decide +kernel
theorem d_X_digest_113 : decode b_X_digest 113 = .ok (.aaload, 1) := by decide +kernel
theorem d_X_digest_114 : decode b_X_digest 114 = .ok (.getfield 223, 3) := by decide +kernel
theorem d_X_digest_117 : decode b_X_digest 117 = .ok (.i2l, 1) := by decide +kernel
theorem d_X_digest_118 : decode b_X_digest 118 = .ok (.ladd, 1) := by decide +kernel
theorem d_X_digest_119 : decode b_X_digest 119 = .ok (.lstore_n 1, 1) := by decide +kernel
theorem d_X_digest_120 : decode b_X_digest 120 = .ok (.iinc 3 1, 3) := by decide +kernel
theorem d_X_digest_123 : decode b_X_digest 123 = .ok (.goto (-41), 3) := by decide +kernel
theorem d_X_digest_126 : decode b_X_digest 126 = .ok (.iconst 0, 1) := by decide +kernel
theorem d_X_digest_127 : decode b_X_digest 127 = .ok (.istore_n 3, 1) := by decide +kernel
theorem d_X_digest_128 : decode b_X_digest 128 = .ok (.iload_n 3, 1) := by decide +kernel
theorem d_X_digest_129 : decode b_X_digest 129 = .ok (.bipush 6, 2) := by decide +kernel
theorem d_X_digest_131 : decode b_X_digest 131 = .ok (.if_icmp .ge 60, 3) := by decide +kernel
theorem d_X_digest_134 : decode b_X_digest 134 = .ok (.ldc2_w 358, 3) := by decide +kernel
theorem d_X_digest_137 : decode b_X_digest 137 = .ok (.lload_n 1, 1) := by decide +kernel
theorem d_X_digest_138 : decode b_X_digest 138 = .ok (.lmul, 1) := by decide +kernel
theorem d_X_digest_139 : decode b_X_digest 139 = .ok (.aload_n 0, 1) := by decide +kernel
theorem d_X_digest_140 : decode b_X_digest 140 = .ok (.getfield 14, 3) := by decide +kernel
theorem d_X_digest_143 : decode b_X_digest 143 = .ok (.iload_n 3, 1) := by decide +kernel
theorem d_X_digest_144 : decode b_X_digest 144 = .ok (.iaload, 1) := by decide +kernel
theorem d_X_digest_145 : decode b_X_digest 145 = .ok (.i2l, 1) := by decide +kernel
theorem d_X_digest_146 : decode b_X_digest 146 = .ok (.ladd, 1) := by decide +kernel
theorem d_X_digest_147 : decode b_X_digest 147 = .ok (.lstore_n 1, 1) := by decide +kernel
theorem d_X_digest_148 : decode b_X_digest 148 = .ok (.iconst 0, 1) := by decide +kernel
theorem d_X_digest_149 : decode b_X_digest 149 = .ok (.istore 4, 2) := by decide +kernel
theorem d_X_digest_151 : decode b_X_digest 151 = .ok (.iload 4, 2) := by decide +kernel
theorem d_X_digest_153 : decode b_X_digest 153 = .ok (.aload_n 0, 1) := by decide +kernel
theorem d_X_digest_154 : decode b_X_digest 154 = .ok (.getfield 14, 3) := by decide +kernel
theorem d_X_digest_157 : decode b_X_digest 157 = .ok (.iload_n 3, 1) := by decide +kernel
theorem d_X_digest_158 : decode b_X_digest 158 = .ok (.iaload, 1) := by decide +kernel
theorem d_X_digest_159 : decode b_X_digest 159 = .ok (.if_icmp .ge 26, 3) := by decide +kernel
theorem d_X_digest_162 : decode b_X_digest 162 = .ok (.ldc2_w 358, 3) := by decide +kernel
theorem d_X_digest_165 : decode b_X_digest 165 = .ok (.lload_n 1, 1) := by decide +kernel
theorem d_X_digest_166 : decode b_X_digest 166 = .ok (.lmul, 1) := by decide +kernel
theorem d_X_digest_167 : decode b_X_digest 167 = .ok (.aload_n 0, 1) := by decide +kernel
theorem d_X_digest_168 : decode b_X_digest 168 = .ok (.getfield 11, 3) := by decide +kernel
theorem d_X_digest_171 : decode b_X_digest 171 = .ok (.iload_n 3, 1) := by decide +kernel
theorem d_X_digest_172 : decode b_X_digest 172 = .ok (.aaload, 1) := by decide +kernel
theorem d_X_digest_173 : decode b_X_digest 173 = .ok (.iload 4, 2) := by decide +kernel
theorem d_X_digest_175 : decode b_X_digest 175 = .ok (.iaload, 1) := by decide +kernel
theorem d_X_digest_176 : decode b_X_digest 176 = .ok (.i2l, 1) := by decide +kernel
theorem d_X_digest_177 : decode b_X_digest 177 = .ok (.ladd, 1) := by decide +kernel
theorem d_X_digest_178 : decode b_X_digest 178 = .ok (.lstore_n 1, 1) := by decide +kernel
theorem d_X_digest_179 : decode b_X_digest 179 = .ok (.iinc 4 1, 3) := by decide +kernel
theorem d_X_digest_182 : decode b_X_digest 182 = .ok (.goto (-31), 3) := by decide +kernel
theorem d_X_digest_185 : decode b_X_digest 185 = .ok (.iinc 3 1, 3) := by decide +kernel
theorem d_X_digest_188 : decode b_X_digest 188 = .ok (.goto (-60), 3) := by decide +kernel
theorem d_X_digest_191 : decode b_X_digest 191 = .ok (.iconst 0, 1) := by decide +kernel
theorem d_X_digest_192 : decode b_X_digest 192 = .ok (.istore_n 3, 1) := by decide +kernel
theorem d_X_digest_193 : decode b_X_digest 193 = .ok (.iload_n 3, 1) := by decide +kernel
theorem d_X_digest_194 : decode b_X_digest 194 = .ok (.iconst 4, 1) := by decide +kernel
theorem d_X_digest_195 : decode b_X_digest 195 = .ok (.if_icmp .ge 60, 3) := by decide +kernel
theorem d_X_digest_198 : decode b_X_digest 198 = .ok (.ldc2_w 358, 3) := by decide +kernel
theorem d_X_digest_201 : decode b_X_digest 201 = .ok (.lload_n 1, 1) := by decide +kernel
theorem d_X_digest_202 : decode b_X_digest 202 = .ok (.lmul, 1) := by decide +kernel
theorem d_X_digest_203 : decode b_X_digest 203 = .ok (.aload_n 0, 1) := by decide +kernel
theorem d_X_digest_204 : decode b_X_digest 204 = .ok (.getfield 23, 3) := by decide +kernel
theorem d_X_digest_207 : decode b_X_digest 207 = .ok (.iload_n 3, 1) := by decide +kernel
theorem d_X_digest_208 : decode b_X_digest 208 = .ok (.iaload, 1) := by decide +kernel
theorem d_X_digest_209 : decode b_X_digest 209 = .ok (.i2l, 1) := by decide +kernel
theorem d_X_digest_210 : decode b_X_digest 210 = .ok (.ladd, 1) := by decide +kernel
theorem d_X_digest_211 : decode b_X_digest 211 = .ok (.lstore_n 1, 1) := by decide +kernel
theorem d_X_digest_212 : decode b_X_digest 212 = .ok (.iconst 0, 1) := by decide +kernel
theorem d_X_digest_213 : decode b_X_digest 213 = .ok (.istore 4, 2) := by decide +kernel
theorem d_X_digest_215 : decode b_X_digest 215 = .ok (.iload 4, 2) := by decide +kernel
theorem d_X_digest_217 : decode b_X_digest 217 = .ok (.aload_n 0, 1) := by decide +kernel
theorem d_X_digest_218 : decode b_X_digest 218 = .ok (.getfield 23, 3) := by decide +kernel
theorem d_X_digest_221 : decode b_X_digest 221 = .ok (.iload_n 3, 1) := by decide +kernel
theorem d_X_digest_222 : decode b_X_digest 222 = .ok (.iaload, 1) := by decide +kernel
theorem d_X_digest_223 : decode b_X_digest 223 = .ok (.if_icmp .ge 26, 3) := by decide +kernel
theorem d_X_digest_226 : decode b_X_digest 226 = .ok (.ldc2_w 358, 3) := by decide +kernel
theorem d_X_digest_229 : decode b_X_digest 229 = .ok (.lload_n 1, 1) := by decide +kernel
theorem d_X_digest_230 : decode b_X_digest 230 = .ok (.lmul, 1) := by decide +kernel
theorem d_X_digest_231 : decode b_X_digest 231 = .ok (.aload_n 0, 1) := by decide +kernel
theorem d_X_digest_232 : decode b_X_digest 232 = .ok (.getfield 20, 3) := by decide +kernel
theorem d_X_digest_235 : decode b_X_digest 235 = .ok (.iload_n 3, 1) := by decide +kernel
theorem d_X_digest_236 : decode b_X_digest 236 = .ok (.aaload, 1) := by decide +kernel
theorem d_X_digest_237 : decode b_X_digest 237 = .ok (.iload 4, 2) := by decide +kernel
theorem d_X_digest_239 : decode b_X_digest 239 = .ok (.baload, 1) := by decide +kernel
theorem d_X_digest_240 : decode b_X_digest 240 = .ok (.i2l, 1) := by decide +kernel
theorem d_X_digest_241 : decode b_X_digest 241 = .ok (.ladd, 1) := by decide +kernel
theorem d_X_digest_242 : decode b_X_digest 242 = .ok (.lstore_n 1, 1) := by decide +kernel
theorem d_X_digest_243 : decode b_X_digest 243 = .ok (.iinc 4 1, 3) := by decide +kernel
theorem d_X_digest_246 : decode b_X_digest 246 = .ok (.goto (-31), 3) := by decide +kernel
theorem d_X_digest_249 : decode b_X_digest 249 = .ok (.iinc 3 1, 3) := by decide +kernel
theorem d_X_digest_252 : decode b_X_digest 252 = .ok (.goto (-59), 3) := by decide +kernel
theorem d_X_digest_255 : decode b_X_digest 255 = .ok (.lload_n 1, 1) := by decide +kernel
theorem d_X_digest_256 : decode b_X_digest 256 = .ok (.lreturn, 1) := by decide +kernel
theorem d_X_found_0 : decode b_X_found 0 = .ok (.aload_n 0, 1) := by decide +kernel
theorem d_X_found_1 : decode b_X_found 1 = .ok (.iload_n 1, 1) := by decide +kernel
theorem d_X_found_2 : decode b_X_found 2 = .ok (.putfield 92, 3) := by decide +kernel
theorem d_X_found_5 : decode b_X_found 5 = .ok (.iload_n 1, 1) := by decide +kernel
theorem d_X_found_6 : decode b_X_found 6 = .ok (.iconst 1, 1) := by decide +kernel
theorem d_X_found_7 : decode b_X_found 7 = .ok (.if_icmp .lt 18, 3) := by decide +kernel
theorem d_X_found_10 : decode b_X_found 10 = .ok (.iload_n 1, 1) := by decide +kernel
theorem d_X_found_11 : decode b_X_found 11 = .ok (.iconst 5, 1) := by decide +kernel
theorem d_X_found_12 : decode b_X_found 12 = .ok (.if_icmp .gt 13, 3) := by decide +kernel
theorem d_X_found_15 : decode b_X_found 15 = .ok (.aload_n 0, 1) := by decide +kernel
theorem d_X_found_16 : decode b_X_found 16 = .ok (.getfield 89, 3) := by decide +kernel
theorem d_X_found_19 : decode b_X_found 19 = .ok (.iload_n 1, 1) := by decide +kernel
theorem d_X_found_20 : decode b_X_found 20 = .ok (.dup2, 1) := by decide +kernel
theorem d_X_found_21 : decode b_X_found 21 = .ok (.iaload, 1) := by decide +kernel
theorem d_X_found_22 : decode b_X_found 22 = .ok (.iconst 1, 1) := by decide +kernel
theorem d_X_found_23 : decode b_X_found 23 = .ok (.iadd, 1) := by decide +kernel
theorem d_X_found_24 : decode b_X_found 24 = .ok (.iastore, 1) := by decide +kernel
theorem d_X_found_25 : decode b_X_found 25 = .ok (.bipush (-3), 2) := by decide +kernel
theorem d_X_found_27 : decode b_X_found 27 = .ok (.ireturn, 1) := by decide +kernel
theorem d_X_isRow_0 : decode b_X_isRow 0 = .ok (.iload_n 0, 1) := by decide +kernel
theorem d_X_isRow_1 : decode b_X_isRow 1 = .ok (.ifCond .lt 13, 3) := by decide +kernel
theorem d_X_isRow_4 : decode b_X_isRow 4 = .ok (.iload_n 0, 1) := by decide +kernel
theorem d_X_isRow_5 : decode b_X_isRow 5 = .ok (.bipush 6, 2) := by decide +kernel
theorem d_X_isRow_7 : decode b_X_isRow 7 = .ok (.if_icmp .ge 7, 3) := by decide +kernel
theorem d_X_isRow_10 : decode b_X_isRow 10 = .ok (.iconst 1, 1) := by decide +kernel
theorem d_X_isRow_11 : decode b_X_isRow 11 = .ok (.goto 4, 3) := by decide +kernel
theorem d_X_isRow_14 : decode b_X_isRow 14 = .ok (.iconst 0, 1) := by decide +kernel
theorem d_X_isRow_15 : decode b_X_isRow 15 = .ok (.ireturn, 1) := by decide +kernel
theorem d_X_isText_0 : decode b_X_isText 0 = .ok (.iload_n 0, 1) := by decide +kernel
theorem d_X_isText_1 : decode b_X_isText 1 = .ok (.ifCond .lt 12, 3) := by decide +kernel
theorem d_X_isText_4 : decode b_X_isText 4 = .ok (.iload_n 0, 1) := by decide +kernel
theorem d_X_isText_5 : decode b_X_isText 5 = .ok (.iconst 4, 1) := by decide +kernel
theorem d_X_isText_6 : decode b_X_isText 6 = .ok (.if_icmp .ge 7, 3) := by decide +kernel
theorem d_X_isText_9 : decode b_X_isText 9 = .ok (.iconst 1, 1) := by decide +kernel
theorem d_X_isText_10 : decode b_X_isText 10 = .ok (.goto 4, 3) := by decide +kernel
theorem d_X_isText_13 : decode b_X_isText 13 = .ok (.iconst 0, 1) := by decide +kernel
theorem d_X_isText_14 : decode b_X_isText 14 = .ok (.ireturn, 1) := by decide +kernel
theorem d_X_isKeepingPlace_0 : decode b_X_isKeepingPlace 0 = .ok (.iload_n 0, 1) := by decide +kernel
theorem d_X_isKeepingPlace_1 : decode b_X_isKeepingPlace 1 = .ok (.ifCond .lt 12, 3) := by decide +kernel
theorem d_X_isKeepingPlace_4 : decode b_X_isKeepingPlace 4 = .ok (.iload_n 0, 1) := by decide +kernel
theorem d_X_isKeepingPlace_5 : decode b_X_isKeepingPlace 5 = .ok (.iconst 3, 1) := by decide +kernel
theorem d_X_isKeepingPlace_6 : decode b_X_isKeepingPlace 6 = .ok (.if_icmp .ge 7, 3) := by decide +kernel
theorem d_X_isKeepingPlace_9 : decode b_X_isKeepingPlace 9 = .ok (.iconst 1, 1) := by decide +kernel
theorem d_X_isKeepingPlace_10 : decode b_X_isKeepingPlace 10 = .ok (.goto 4, 3) := by decide +kernel
theorem d_X_isKeepingPlace_13 : decode b_X_isKeepingPlace 13 = .ok (.iconst 0, 1) := by decide +kernel
theorem d_X_isKeepingPlace_14 : decode b_X_isKeepingPlace 14 = .ok (.ireturn, 1) := by decide +kernel
theorem d_X_isStreet_0 : decode b_X_isStreet 0 = .ok (.iload_n 0, 1) := by decide +kernel
theorem d_X_isStreet_1 : decode b_X_isStreet 1 = .ok (.ifCond .lt 12, 3) := by decide +kernel
theorem d_X_isStreet_4 : decode b_X_isStreet 4 = .ok (.iload_n 0, 1) := by decide +kernel
theorem d_X_isStreet_5 : decode b_X_isStreet 5 = .ok (.iconst 5, 1) := by decide +kernel
theorem d_X_isStreet_6 : decode b_X_isStreet 6 = .ok (.if_icmp .ge 7, 3) := by decide +kernel
theorem d_X_isStreet_9 : decode b_X_isStreet 9 = .ok (.iconst 1, 1) := by decide +kernel
theorem d_X_isStreet_10 : decode b_X_isStreet 10 = .ok (.goto 4, 3) := by decide +kernel
theorem d_X_isStreet_13 : decode b_X_isStreet 13 = .ok (.iconst 0, 1) := by decide +kernel
theorem d_X_isStreet_14 : decode b_X_isStreet 14 = .ok (.ireturn, 1) := by decide +kernel
theorem d_X_isWalker_0 : decode b_X_isWalker 0 = .ok (.iload_n 1, 1) := by decide +kernel
theorem d_X_isWalker_1 : decode b_X_isWalker 1 = .ok (.ifCond .lt 18, 3) := by decide +kernel
theorem d_X_isWalker_4 : decode b_X_isWalker 4 = .ok (.iload_n 1, 1) := by decide +kernel
theorem d_X_isWalker_5 : decode b_X_isWalker 5 = .ok (.aload_n 0, 1) := by decide +kernel
theorem d_X_isWalker_6 : decode b_X_isWalker 6 = .ok (.getfield 36, 3) := by decide +kernel
theorem d_X_isWalker_9 : decode b_X_isWalker 9 = .ok (.getfield 158, 3) := by decide +kernel
theorem d_X_isWalker_12 : decode b_X_isWalker 12 = .ok (.if_icmp .ge 7, 3) := by decide +kernel
theorem d_X_isWalker_15 : decode b_X_isWalker 15 = .ok (.iconst 1, 1) := by decide +kernel
theorem d_X_isWalker_16 : decode b_X_isWalker 16 = .ok (.goto 4, 3) := by decide +kernel
theorem d_X_isWalker_19 : decode b_X_isWalker 19 = .ok (.iconst 0, 1) := by decide +kernel
theorem d_X_isWalker_20 : decode b_X_isWalker 20 = .ok (.ireturn, 1) := by decide +kernel
theorem d_X_isCode_0 : decode b_X_isCode 0 = .ok (.iload_n 0, 1) := by decide +kernel
theorem d_X_isCode_1 : decode b_X_isCode 1 = .ok (.ifCond .lt 10, 3) := by decide +kernel
theorem d_X_isCode_4 : decode b_X_isCode 4 = .ok (.iload_n 0, 1) := by decide +kernel
theorem d_X_isCode_5 : decode b_X_isCode 5 = .ok (.ldc_w 363, 3) := by decide +kernel
theorem d_X_isCode_8 : decode b_X_isCode 8 = .ok (.if_icmp .le 5, 3) := by decide +kernel
theorem d_X_isCode_11 : decode b_X_isCode 11 = .ok (.iconst 0, 1) := by decide +kernel
theorem d_X_isCode_12 : decode b_X_isCode 12 = .ok (.ireturn, 1) := by decide +kernel
theorem d_X_isCode_13 : decode b_X_isCode 13 = .ok (.iload_n 0, 1) := by decide +kernel
theorem d_X_isCode_14 : decode b_X_isCode 14 = .ok (.istore_n 1, 1) := by decide +kernel
theorem d_X_isCode_15 : decode b_X_isCode 15 = .ok (.iload_n 1, 1) := by decide +kernel
theorem d_X_isCode_16 : decode b_X_isCode 16 = .ok (.ifCond .le 25, 3) := by decide +kernel
theorem d_X_isCode_19 : decode b_X_isCode 19 = .ok (.iload_n 1, 1) := by decide +kernel
theorem d_X_isCode_20 : decode b_X_isCode 20 = .ok (.bipush 10, 2) := by decide +kernel
theorem d_X_isCode_22 : decode b_X_isCode 22 = .ok (.irem, 1) := by decide +kernel
theorem d_X_isCode_23 : decode b_X_isCode 23 = .ok (.iconst 1, 1) := by decide +kernel
theorem d_X_isCode_24 : decode b_X_isCode 24 = .ok (.isub, 1) := by decide +kernel
theorem d_X_isCode_25 : decode b_X_isCode 25 = .ok (.invokestatic 217, 3) := by decide +kernel
theorem d_X_isCode_28 : decode b_X_isCode 28 = .ok (.ifCond .ne 5, 3) := by decide +kernel
theorem d_X_isCode_31 : decode b_X_isCode 31 = .ok (.iconst 0, 1) := by decide +kernel
theorem d_X_isCode_32 : decode b_X_isCode 32 = .ok (.ireturn, 1) := by decide +kernel
theorem d_X_isCode_33 : decode b_X_isCode 33 = .ok (.iload_n 1, 1) := by decide +kernel
theorem d_X_isCode_34 : decode b_X_isCode 34 = .ok (.bipush 10, 2) := by decide +kernel
theorem d_X_isCode_36 : decode b_X_isCode 36 = .ok (.idiv, 1) := by decide +kernel
theorem d_X_isCode_37 : decode b_X_isCode 37 = .ok (.istore_n 1, 1) := by decide +kernel
theorem d_X_isCode_38 : decode b_X_isCode 38 = .ok (.goto (-23), 3) := by decide +kernel
theorem d_X_isCode_41 : decode b_X_isCode 41 = .ok (.iconst 1, 1) := by decide +kernel
theorem d_X_isCode_42 : decode b_X_isCode 42 = .ok (.ireturn, 1) := by decide +kernel
theorem d_X_hasPlaces_0 : decode b_X_hasPlaces 0 = .ok (.iload_n 1, 1) := by decide +kernel
theorem d_X_hasPlaces_1 : decode b_X_hasPlaces 1 = .ok (.ifCond .lt 19, 3) := by decide +kernel
theorem d_X_hasPlaces_4 : decode b_X_hasPlaces 4 = .ok (.iload_n 1, 1) := by decide +kernel
theorem d_X_hasPlaces_5 : decode b_X_hasPlaces 5 = .ok (.iload_n 0, 1) := by decide +kernel
theorem d_X_hasPlaces_6 : decode b_X_hasPlaces 6 = .ok (.if_icmp .gt 14, 3) := by decide +kernel
theorem d_X_hasPlaces_9 : decode b_X_hasPlaces 9 = .ok (.iload_n 2, 1) := by decide +kernel
theorem d_X_hasPlaces_10 : decode b_X_hasPlaces 10 = .ok (.iload_n 0, 1) := by decide +kernel
theorem d_X_hasPlaces_11 : decode b_X_hasPlaces 11 = .ok (.iload_n 1, 1) := by decide +kernel
theorem d_X_hasPlaces_12 : decode b_X_hasPlaces 12 = .ok (.isub, 1) := by decide +kernel
theorem d_X_hasPlaces_13 : decode b_X_hasPlaces 13 = .ok (.if_icmp .gt 7, 3) := by decide +kernel
theorem d_X_hasPlaces_16 : decode b_X_hasPlaces 16 = .ok (.iconst 1, 1) := by decide +kernel
theorem d_X_hasPlaces_17 : decode b_X_hasPlaces 17 = .ok (.goto 4, 3) := by decide +kernel
theorem d_X_hasPlaces_20 : decode b_X_hasPlaces 20 = .ok (.iconst 0, 1) := by decide +kernel
theorem d_X_hasPlaces_21 : decode b_X_hasPlaces 21 = .ok (.ireturn, 1) := by decide +kernel
theorem d_X_rowRefusal_0 : decode b_X_rowRefusal 0 = .ok (.iload_n 1, 1) := by decide +kernel
theorem d_X_rowRefusal_1 : decode b_X_rowRefusal 1 = .ok (.invokestatic 112, 3) := by decide +kernel
theorem d_X_rowRefusal_4 : decode b_X_rowRefusal 4 = .ok (.ifCond .ne 5, 3) := by decide +kernel
theorem d_X_rowRefusal_7 : decode b_X_rowRefusal 7 = .ok (.iconst (-1), 1) := by decide +kernel
theorem d_X_rowRefusal_8 : decode b_X_rowRefusal 8 = .ok (.ireturn, 1) := by decide +kernel
theorem d_X_rowRefusal_9 : decode b_X_rowRefusal 9 = .ok (.aload_n 0, 1) := by decide +kernel
theorem d_X_rowRefusal_10 : decode b_X_rowRefusal 10 = .ok (.getfield 14, 3) := by decide +kernel
theorem d_X_rowRefusal_13 : decode b_X_rowRefusal 13 = .ok (.iload_n 1, 1) := by decide +kernel
theorem d_X_rowRefusal_14 : decode b_X_rowRefusal 14 = .ok (.iaload, 1) := by decide +kernel
theorem d_X_rowRefusal_15 : decode b_X_rowRefusal 15 = .ok (.ifCond .ge 11, 3) := by decide +kernel
theorem d_X_rowRefusal_18 : decode b_X_rowRefusal 18 = .ok (.aload_n 0, 1) := by decide +kernel
theorem d_X_rowRefusal_19 : decode b_X_rowRefusal 19 = .ok (.iconst 1, 1) := by decide +kernel
theorem d_X_rowRefusal_20 : decode b_X_rowRefusal 20 = .ok (.invokevirtual 116, 3) := by decide +kernel
theorem d_X_rowRefusal_23 : decode b_X_rowRefusal 23 = .ok (.goto 4, 3) := by decide +kernel
theorem d_X_rowRefusal_26 : decode b_X_rowRefusal 26 = .ok (.iconst 0, 1) := by decide +kernel
theorem d_X_rowRefusal_27 : decode b_X_rowRefusal 27 = .ok (.ireturn, 1) := by decide +kernel
theorem d_X_placeRefusal_0 : decode b_X_placeRefusal 0 = .ok (.aload_n 0, 1) := by decide +kernel
theorem d_X_placeRefusal_1 : decode b_X_placeRefusal 1 = .ok (.iload_n 1, 1) := by decide +kernel
theorem d_X_placeRefusal_2 : decode b_X_placeRefusal 2 = .ok (.invokevirtual 128, 3) := by decide +kernel
theorem d_X_placeRefusal_5 : decode b_X_placeRefusal 5 = .ok (.istore_n 3, 1) := by decide +kernel
theorem d_X_placeRefusal_6 : decode b_X_placeRefusal 6 = .ok (.iload_n 3, 1) := by decide +kernel
theorem d_X_placeRefusal_7 : decode b_X_placeRefusal 7 = .ok (.ifCond .eq 5, 3) := by decide +kernel
theorem d_X_placeRefusal_10 : decode b_X_placeRefusal 10 = .ok (.iload_n 3, 1) := by decide +kernel
theorem d_X_placeRefusal_11 : decode b_X_placeRefusal 11 = .ok (.ireturn, 1) := by decide +kernel
theorem d_X_placeRefusal_12 : decode b_X_placeRefusal 12 = .ok (.iload_n 2, 1) := by decide +kernel
theorem d_X_placeRefusal_13 : decode b_X_placeRefusal 13 = .ok (.ifCond .lt 13, 3) := by decide +kernel
theorem d_X_placeRefusal_16 : decode b_X_placeRefusal 16 = .ok (.iload_n 2, 1) := by decide +kernel
theorem d_X_placeRefusal_17 : decode b_X_placeRefusal 17 = .ok (.aload_n 0, 1) := by decide +kernel
theorem d_X_placeRefusal_18 : decode b_X_placeRefusal 18 = .ok (.getfield 14, 3) := by decide +kernel
theorem d_X_placeRefusal_21 : decode b_X_placeRefusal 21 = .ok (.iload_n 1, 1) := by decide +kernel
theorem d_X_placeRefusal_22 : decode b_X_placeRefusal 22 = .ok (.iaload, 1) := by decide +kernel
theorem d_X_placeRefusal_23 : decode b_X_placeRefusal 23 = .ok (.if_icmp .lt 11, 3) := by decide +kernel
theorem d_X_placeRefusal_26 : decode b_X_placeRefusal 26 = .ok (.aload_n 0, 1) := by decide +kernel
theorem d_X_placeRefusal_27 : decode b_X_placeRefusal 27 = .ok (.iconst 2, 1) := by decide +kernel
theorem d_X_placeRefusal_28 : decode b_X_placeRefusal 28 = .ok (.invokevirtual 116, 3) := by decide +kernel
theorem d_X_placeRefusal_31 : decode b_X_placeRefusal 31 = .ok (.goto 4, 3) := by decide +kernel
theorem d_X_placeRefusal_34 : decode b_X_placeRefusal 34 = .ok (.iconst 0, 1) := by decide +kernel
theorem d_X_placeRefusal_35 : decode b_X_placeRefusal 35 = .ok (.ireturn, 1) := by decide +kernel
theorem d_X_textRefusal_0 : decode b_X_textRefusal 0 = .ok (.iload_n 1, 1) := by decide +kernel
theorem d_X_textRefusal_1 : decode b_X_textRefusal 1 = .ok (.invokestatic 141, 3) := by decide +kernel
theorem d_X_textRefusal_4 : decode b_X_textRefusal 4 = .ok (.ifCond .ne 5, 3) := by decide +kernel
theorem d_X_textRefusal_7 : decode b_X_textRefusal 7 = .ok (.iconst (-1), 1) := by decide +kernel
theorem d_X_textRefusal_8 : decode b_X_textRefusal 8 = .ok (.ireturn, 1) := by decide +kernel
theorem d_X_textRefusal_9 : decode b_X_textRefusal 9 = .ok (.aload_n 0, 1) := by decide +kernel
theorem d_X_textRefusal_10 : decode b_X_textRefusal 10 = .ok (.getfield 23, 3) := by decide +kernel
theorem d_X_textRefusal_13 : decode b_X_textRefusal 13 = .ok (.iload_n 1, 1) := by decide +kernel
theorem d_X_textRefusal_14 : decode b_X_textRefusal 14 = .ok (.iaload, 1) := by decide +kernel
theorem d_X_textRefusal_15 : decode b_X_textRefusal 15 = .ok (.ifCond .ge 11, 3) := by decide +kernel
theorem d_X_textRefusal_18 : decode b_X_textRefusal 18 = .ok (.aload_n 0, 1) := by decide +kernel
theorem d_X_textRefusal_19 : decode b_X_textRefusal 19 = .ok (.iconst 1, 1) := by decide +kernel
theorem d_X_textRefusal_20 : decode b_X_textRefusal 20 = .ok (.invokevirtual 116, 3) := by decide +kernel
theorem d_X_textRefusal_23 : decode b_X_textRefusal 23 = .ok (.goto 4, 3) := by decide +kernel
theorem d_X_textRefusal_26 : decode b_X_textRefusal 26 = .ok (.iconst 0, 1) := by decide +kernel
theorem d_X_textRefusal_27 : decode b_X_textRefusal 27 = .ok (.ireturn, 1) := by decide +kernel
theorem d_X_streetsRefusal_0 : decode b_X_streetsRefusal 0 = .ok (.aload_n 0, 1) := by decide +kernel
theorem d_X_streetsRefusal_1 : decode b_X_streetsRefusal 1 = .ok (.iload_n 1, 1) := by decide +kernel
theorem d_X_streetsRefusal_2 : decode b_X_streetsRefusal 2 = .ok (.invokevirtual 128, 3) := by decide +kernel
theorem d_X_streetsRefusal_5 : decode b_X_streetsRefusal 5 = .ok (.istore_n 2, 1) := by decide +kernel
theorem d_X_streetsRefusal_6 : decode b_X_streetsRefusal 6 = .ok (.iload_n 2, 1) := by decide +kernel
theorem d_X_streetsRefusal_7 : decode b_X_streetsRefusal 7 = .ok (.ifCond .eq 5, 3) := by decide +kernel
theorem d_X_streetsRefusal_10 : decode b_X_streetsRefusal 10 = .ok (.iload_n 2, 1) := by decide +kernel
theorem d_X_streetsRefusal_11 : decode b_X_streetsRefusal 11 = .ok (.ireturn, 1) := by decide +kernel
theorem d_X_streetsRefusal_12 : decode b_X_streetsRefusal 12 = .ok (.iconst 0, 1) := by decide +kernel
theorem d_X_streetsRefusal_13 : decode b_X_streetsRefusal 13 = .ok (.istore_n 3, 1) := by decide +kernel
theorem d_X_streetsRefusal_14 : decode b_X_streetsRefusal 14 = .ok (.iload_n 3, 1) := by decide +kernel
theorem d_X_streetsRefusal_15 : decode b_X_streetsRefusal 15 = .ok (.aload_n 0, 1) := by decide +kernel
theorem d_X_streetsRefusal_16 : decode b_X_streetsRefusal 16 = .ok (.getfield 14, 3) := by decide +kernel
theorem d_X_streetsRefusal_19 : decode b_X_streetsRefusal 19 = .ok (.iload_n 1, 1) := by decide +kernel
theorem d_X_streetsRefusal_20 : decode b_X_streetsRefusal 20 = .ok (.iaload, 1) := by decide +kernel
theorem d_X_streetsRefusal_21 : decode b_X_streetsRefusal 21 = .ok (.if_icmp .ge 29, 3) := by decide +kernel
theorem d_X_streetsRefusal_24 : decode b_X_streetsRefusal 24 = .ok (.aload_n 0, 1) := by decide +kernel
theorem d_X_streetsRefusal_25 : decode b_X_streetsRefusal 25 = .ok (.getfield 11, 3) := by decide +kernel
theorem d_X_streetsRefusal_28 : decode b_X_streetsRefusal 28 = .ok (.iload_n 1, 1) := by decide +kernel
theorem d_X_streetsRefusal_29 : decode b_X_streetsRefusal 29 = .ok (.aaload, 1) := by decide +kernel
theorem d_X_streetsRefusal_30 : decode b_X_streetsRefusal 30 = .ok (.iload_n 3, 1) := by decide +kernel
theorem d_X_streetsRefusal_31 : decode b_X_streetsRefusal 31 = .ok (.iaload, 1) := by decide +kernel
theorem d_X_streetsRefusal_32 : decode b_X_streetsRefusal 32 = .ok (.invokestatic 217, 3) := by decide +kernel
theorem d_X_streetsRefusal_35 : decode b_X_streetsRefusal 35 = .ok (.ifCond .ne 9, 3) := by decide +kernel
theorem d_X_streetsRefusal_38 : decode b_X_streetsRefusal 38 = .ok (.aload_n 0, 1) := by decide +kernel
theorem d_X_streetsRefusal_39 : decode b_X_streetsRefusal 39 = .ok (.iconst 3, 1) := by decide +kernel
theorem d_X_streetsRefusal_40 : decode b_X_streetsRefusal 40 = .ok (.invokevirtual 116, 3) := by decide +kernel
theorem d_X_streetsRefusal_43 : decode b_X_streetsRefusal 43 = .ok (.ireturn, 1) := by decide +kernel
theorem d_X_streetsRefusal_44 : decode b_X_streetsRefusal 44 = .ok (.iinc 3 1, 3) := by decide +kernel
theorem d_X_streetsRefusal_47 : decode b_X_streetsRefusal 47 = .ok (.goto (-33), 3) := by decide +kernel
theorem d_X_streetsRefusal_50 : decode b_X_streetsRefusal 50 = .ok (.iconst 0, 1) := by decide +kernel
theorem d_X_streetsRefusal_51 : decode b_X_streetsRefusal 51 = .ok (.ireturn, 1) := by decide +kernel
theorem d_X_codesRefusal_0 : decode b_X_codesRefusal 0 = .ok (.aload_n 0, 1) := by decide +kernel
theorem d_X_codesRefusal_1 : decode b_X_codesRefusal 1 = .ok (.iload_n 1, 1) := by decide +kernel
theorem d_X_codesRefusal_2 : decode b_X_codesRefusal 2 = .ok (.invokevirtual 128, 3) := by decide +kernel
theorem d_X_codesRefusal_5 : decode b_X_codesRefusal 5 = .ok (.istore_n 3, 1) := by decide +kernel
theorem d_X_codesRefusal_6 : decode b_X_codesRefusal 6 = .ok (.iload_n 3, 1) := by decide +kernel
theorem d_X_codesRefusal_7 : decode b_X_codesRefusal 7 = .ok (.ifCond .eq 5, 3) := by decide +kernel
theorem d_X_codesRefusal_10 : decode b_X_codesRefusal 10 = .ok (.iload_n 3, 1) := by decide +kernel
theorem d_X_codesRefusal_11 : decode b_X_codesRefusal 11 = .ok (.ireturn, 1) := by decide +kernel
theorem d_X_codesRefusal_12 : decode b_X_codesRefusal 12 = .ok (.aload_n 0, 1) := by decide +kernel
theorem d_X_codesRefusal_13 : decode b_X_codesRefusal 13 = .ok (.getfield 14, 3) := by decide +kernel
theorem d_X_codesRefusal_16 : decode b_X_codesRefusal 16 = .ok (.iload_n 1, 1) := by decide +kernel
theorem d_X_codesRefusal_17 : decode b_X_codesRefusal 17 = .ok (.iaload, 1) := by decide +kernel
theorem d_X_codesRefusal_18 : decode b_X_codesRefusal 18 = .ok (.iload_n 2, 1) := by decide +kernel
theorem d_X_codesRefusal_19 : decode b_X_codesRefusal 19 = .ok (.if_icmp .le 9, 3) := by decide +kernel
theorem d_X_codesRefusal_22 : decode b_X_codesRefusal 22 = .ok (.aload_n 0, 1) := by decide +kernel
theorem d_X_codesRefusal_23 : decode b_X_codesRefusal 23 = .ok (.iconst 5, 1) := by decide +kernel
theorem d_X_codesRefusal_24 : decode b_X_codesRefusal 24 = .ok (.invokevirtual 116, 3) := by decide +kernel
theorem d_X_codesRefusal_27 : decode b_X_codesRefusal 27 = .ok (.ireturn, 1) := by decide +kernel
theorem d_X_codesRefusal_28 : decode b_X_codesRefusal 28 = .ok (.iconst 0, 1) := by decide +kernel
theorem d_X_codesRefusal_29 : decode b_X_codesRefusal 29 = .ok (.istore 4, 2) := by decide +kernel
theorem d_X_codesRefusal_31 : decode b_X_codesRefusal 31 = .ok (.iload 4, 2) := by decide +kernel
theorem d_X_codesRefusal_33 : decode b_X_codesRefusal 33 = .ok (.aload_n 0, 1) := by decide +kernel
theorem d_X_codesRefusal_34 : decode b_X_codesRefusal 34 = .ok (.getfield 14, 3) := by decide +kernel
theorem d_X_codesRefusal_37 : decode b_X_codesRefusal 37 = .ok (.iload_n 1, 1) := by decide +kernel
theorem d_X_codesRefusal_38 : decode b_X_codesRefusal 38 = .ok (.iaload, 1) := by decide +kernel
theorem d_X_codesRefusal_39 : decode b_X_codesRefusal 39 = .ok (.if_icmp .ge 30, 3) := by decide +kernel
theorem d_X_codesRefusal_42 : decode b_X_codesRefusal 42 = .ok (.aload_n 0, 1) := by decide +kernel
theorem d_X_codesRefusal_43 : decode b_X_codesRefusal 43 = .ok (.getfield 11, 3) := by decide +kernel
theorem d_X_codesRefusal_46 : decode b_X_codesRefusal 46 = .ok (.iload_n 1, 1) := by decide +kernel
theorem d_X_codesRefusal_47 : decode b_X_codesRefusal 47 = .ok (.aaload, 1) := by decide +kernel
theorem d_X_codesRefusal_48 : decode b_X_codesRefusal 48 = .ok (.iload 4, 2) := by decide +kernel
theorem d_X_codesRefusal_50 : decode b_X_codesRefusal 50 = .ok (.iaload, 1) := by decide +kernel
theorem d_X_codesRefusal_51 : decode b_X_codesRefusal 51 = .ok (.invokestatic 208, 3) := by decide +kernel
theorem d_X_codesRefusal_54 : decode b_X_codesRefusal 54 = .ok (.ifCond .ne 9, 3) := by decide +kernel
theorem d_X_codesRefusal_57 : decode b_X_codesRefusal 57 = .ok (.aload_n 0, 1) := by decide +kernel
theorem d_X_codesRefusal_58 : decode b_X_codesRefusal 58 = .ok (.iconst 3, 1) := by decide +kernel
theorem d_X_codesRefusal_59 : decode b_X_codesRefusal 59 = .ok (.invokevirtual 116, 3) := by decide +kernel
theorem d_X_codesRefusal_62 : decode b_X_codesRefusal 62 = .ok (.ireturn, 1) := by decide +kernel
theorem d_X_codesRefusal_63 : decode b_X_codesRefusal 63 = .ok (.iinc 4 1, 3) := by decide +kernel
theorem d_X_codesRefusal_66 : decode b_X_codesRefusal 66 = .ok (.goto (-35), 3) := by decide +kernel
theorem d_X_codesRefusal_69 : decode b_X_codesRefusal 69 = .ok (.iconst 0, 1) := by decide +kernel
theorem d_X_codesRefusal_70 : decode b_X_codesRefusal 70 = .ok (.ireturn, 1) := by decide +kernel
theorem d_X_renewRow_0 : decode b_X_renewRow 0 = .ok (.aload_n 0, 1) := by decide +kernel
theorem d_X_renewRow_1 : decode b_X_renewRow 1 = .ok (.getfield 14, 3) := by decide +kernel
theorem d_X_renewRow_4 : decode b_X_renewRow 4 = .ok (.iload_n 1, 1) := by decide +kernel
theorem d_X_renewRow_5 : decode b_X_renewRow 5 = .ok (.iload_n 2, 1) := by decide +kernel
theorem d_X_renewRow_6 : decode b_X_renewRow 6 = .ok (.iastore, 1) := by decide +kernel
theorem d_X_renewRow_7 : decode b_X_renewRow 7 = .ok (.aload_n 0, 1) := by decide +kernel
theorem d_X_renewRow_8 : decode b_X_renewRow 8 = .ok (.getfield 11, 3) := by decide +kernel
theorem d_X_renewRow_11 : decode b_X_renewRow 11 = .ok (.iload_n 1, 1) := by decide +kernel
theorem d_X_renewRow_12 : decode b_X_renewRow 12 = .ok (.aaload, 1) := by decide +kernel
theorem d_X_renewRow_13 : decode b_X_renewRow 13 = .ok (.iconst 0, 1) := by decide +kernel
theorem d_X_renewRow_14 : decode b_X_renewRow 14 = .ok (.invokestatic 106, 3) := by decide +kernel
theorem d_X_renewRow_17 : decode b_X_renewRow 17 = .ok (.return_, 1) := by decide +kernel
theorem d_X_tell_0 : decode b_X_tell 0 = .ok (.lload_n 1, 1) := by decide +kernel
theorem d_X_tell_1 : decode b_X_tell 1 = .ok (.lload_n 3, 1) := by decide +kernel
theorem d_X_tell_2 : decode b_X_tell 2 = .ok (.invokestatic 364, 3) := by decide +kernel
theorem d_X_tell_5 : decode b_X_tell 5 = .ok (.lstore 5, 2) := by decide +kernel
theorem d_X_tell_7 : decode b_X_tell 7 = .ok (.lload 5, 2) := by decide +kernel
theorem d_X_tell_9 : decode b_X_tell 9 = .ok (.lconst 0, 1) := by decide +kernel
theorem d_X_tell_10 : decode b_X_tell 10 = .ok (.lcmp, 1) := by decide +kernel
theorem d_X_tell_11 : decode b_X_tell 11 = .ok (.ifCond .le 19, 3) := by decide +kernel
theorem d_X_tell_14 : decode b_X_tell 14 = .ok (.aload_n 0, 1) := by decide +kernel
theorem d_X_tell_15 : decode b_X_tell 15 = .ok (.lload_n 1, 1) := by decide +kernel
theorem d_X_tell_16 : decode b_X_tell 16 = .ok (.lload 5, 2) := by decide +kernel
theorem d_X_tell_18 : decode b_X_tell 18 = .ok (.ldiv, 1) := by decide +kernel
theorem d_X_tell_19 : decode b_X_tell 19 = .ok (.putfield 99, 3) := by decide +kernel
theorem d_X_tell_22 : decode b_X_tell 22 = .ok (.aload_n 0, 1) := by decide +kernel
theorem d_X_tell_23 : decode b_X_tell 23 = .ok (.lload_n 3, 1) := by decide +kernel
theorem d_X_tell_24 : decode b_X_tell 24 = .ok (.lload 5, 2) := by decide +kernel
theorem d_X_tell_26 : decode b_X_tell 26 = .ok (.ldiv, 1) := by decide +kernel
theorem d_X_tell_27 : decode b_X_tell 27 = .ok (.putfield 103, 3) := by decide +kernel
theorem d_X_tell_30 : decode b_X_tell 30 = .ok (.iconst 1, 1) := by decide +kernel
theorem d_X_tell_31 : decode b_X_tell 31 = .ok (.ireturn, 1) := by decide +kernel
theorem d_X_commonDivisor_0 : decode b_X_commonDivisor 0 = .ok (.lload_n 0, 1) := by decide +kernel
theorem d_X_commonDivisor_1 : decode b_X_commonDivisor 1 = .ok (.lstore 4, 2) := by decide +kernel
theorem d_X_commonDivisor_3 : decode b_X_commonDivisor 3 = .ok (.lload_n 2, 1) := by decide +kernel
theorem d_X_commonDivisor_4 : decode b_X_commonDivisor 4 = .ok (.lstore 6, 2) := by decide +kernel
theorem d_X_commonDivisor_6 : decode b_X_commonDivisor 6 = .ok (.iconst 0, 1) := by decide +kernel
theorem d_X_commonDivisor_7 : decode b_X_commonDivisor 7 = .ok (.istore 8, 2) := by decide +kernel
theorem d_X_commonDivisor_9 : decode b_X_commonDivisor 9 = .ok (.iload 8, 2) := by decide +kernel
theorem d_X_commonDivisor_11 : decode b_X_commonDivisor 11 = .ok (.sipush 200, 3) := by decide +kernel
theorem d_X_commonDivisor_14 : decode b_X_commonDivisor 14 = .ok (.if_icmp .ge 31, 3) := by decide +kernel
theorem d_X_commonDivisor_17 : decode b_X_commonDivisor 17 = .ok (.lload 6, 2) := by decide +kernel
theorem d_X_commonDivisor_19 : decode b_X_commonDivisor 19 = .ok (.lconst 0, 1) := by decide +kernel
theorem d_X_commonDivisor_20 : decode b_X_commonDivisor 20 = .ok (.lcmp, 1) := by decide +kernel
theorem d_X_commonDivisor_21 : decode b_X_commonDivisor 21 = .ok (.ifCond .le 24, 3) := by decide +kernel
theorem d_X_commonDivisor_24 : decode b_X_commonDivisor 24 = .ok (.lload 4, 2) := by decide +kernel
theorem d_X_commonDivisor_26 : decode b_X_commonDivisor 26 = .ok (.lload 6, 2) := by decide +kernel
theorem d_X_commonDivisor_28 : decode b_X_commonDivisor 28 = .ok (.lrem, 1) := by decide +kernel
theorem d_X_commonDivisor_29 : decode b_X_commonDivisor 29 = .ok (.lstore 9, 2) := by decide +kernel
theorem d_X_commonDivisor_31 : decode b_X_commonDivisor 31 = .ok (.lload 6, 2) := by decide +kernel
theorem d_X_commonDivisor_33 : decode b_X_commonDivisor 33 = .ok (.lstore 4, 2) := by decide +kernel
theorem d_X_commonDivisor_35 : decode b_X_commonDivisor 35 = .ok (.lload 9, 2) := by decide +kernel
theorem d_X_commonDivisor_37 : decode b_X_commonDivisor 37 = .ok (.lstore 6, 2) := by decide +kernel
theorem d_X_commonDivisor_39 : decode b_X_commonDivisor 39 = .ok (.iinc 8 1, 3) := by decide +kernel
theorem d_X_commonDivisor_42 : decode b_X_commonDivisor 42 = .ok (.goto (-33), 3) := by decide +kernel
theorem d_X_commonDivisor_45 : decode b_X_commonDivisor 45 = .ok (.lload 4, 2) := by decide +kernel
theorem d_X_commonDivisor_47 : decode b_X_commonDivisor 47 = .ok (.lreturn, 1) := by decide +kernel
theorem d_X_plainOf_0 : decode b_X_plainOf 0 = .ok (.aload_n 0, 1) := by decide +kernel
theorem d_X_plainOf_1 : decode b_X_plainOf 1 = .ok (.getfield 47, 3) := by decide +kernel
theorem d_X_plainOf_4 : decode b_X_plainOf 4 = .ok (.iload_n 1, 1) := by decide +kernel
theorem d_X_plainOf_5 : decode b_X_plainOf 5 = .ok (.invokevirtual 187, 3) := by decide +kernel
theorem d_X_plainOf_8 : decode b_X_plainOf 8 = .ok (.aload_n 0, 1) := by decide +kernel
theorem d_X_plainOf_9 : decode b_X_plainOf 9 = .ok (.getfield 47, 3) := by decide +kernel
theorem d_X_plainOf_12 : decode b_X_plainOf 12 = .ok (.invokevirtual 238, 3) := by decide +kernel
theorem d_X_plainOf_15 : decode b_X_plainOf 15 = .ok (.ireturn, 1) := by decide +kernel
theorem d_X_gap_0 : decode b_X_gap 0 = .ok (.aload_n 0, 1) := by decide +kernel
theorem d_X_gap_1 : decode b_X_gap 1 = .ok (.getfield 47, 3) := by decide +kernel
theorem d_X_gap_4 : decode b_X_gap 4 = .ok (.iload_n 1, 1) := by decide +kernel
theorem d_X_gap_5 : decode b_X_gap 5 = .ok (.iload_n 2, 1) := by decide +kernel
theorem d_X_gap_6 : decode b_X_gap 6 = .ok (.invokevirtual 250, 3) := by decide +kernel
theorem d_X_gap_9 : decode b_X_gap 9 = .ok (.aload_n 0, 1) := by decide +kernel
theorem d_X_gap_10 : decode b_X_gap 10 = .ok (.getfield 47, 3) := by decide +kernel
theorem d_X_gap_13 : decode b_X_gap 13 = .ok (.getfield 204, 3) := by decide +kernel
theorem d_X_gap_16 : decode b_X_gap 16 = .ok (.ireturn, 1) := by decide +kernel
theorem d_X_factOf_0 : decode b_X_factOf 0 = .ok (.aload_n 0, 1) := by decide +kernel
theorem d_X_factOf_1 : decode b_X_factOf 1 = .ok (.getfield 36, 3) := by decide +kernel
theorem d_X_factOf_4 : decode b_X_factOf 4 = .ok (.iload_n 1, 1) := by decide +kernel
theorem d_X_factOf_5 : decode b_X_factOf 5 = .ok (.aload_n 0, 1) := by decide +kernel
theorem d_X_factOf_6 : decode b_X_factOf 6 = .ok (.getfield 54, 3) := by decide +kernel
theorem d_X_factOf_9 : decode b_X_factOf 9 = .ok (.invokevirtual 167, 3) := by decide +kernel
theorem d_X_factOf_12 : decode b_X_factOf 12 = .ok (.iload_n 2, 1) := by decide +kernel
theorem d_X_factOf_13 : decode b_X_factOf 13 = .ok (.tableswitch 63 0 3 #[31, 39, 47, 55], 31) := by decide +kernel
theorem d_X_factOf_44 : decode b_X_factOf 44 = .ok (.aload_n 0, 1) := by decide +kernel
theorem d_X_factOf_45 : decode b_X_factOf 45 = .ok (.getfield 54, 3) := by decide +kernel
theorem d_X_factOf_48 : decode b_X_factOf 48 = .ok (.getfield 368, 3) := by decide +kernel
theorem d_X_factOf_51 : decode b_X_factOf 51 = .ok (.ireturn, 1) := by decide +kernel
theorem d_X_factOf_52 : decode b_X_factOf 52 = .ok (.aload_n 0, 1) := by decide +kernel
theorem d_X_factOf_53 : decode b_X_factOf 53 = .ok (.getfield 54, 3) := by decide +kernel
theorem d_X_factOf_56 : decode b_X_factOf 56 = .ok (.getfield 184, 3) := by decide +kernel
theorem d_X_factOf_59 : decode b_X_factOf 59 = .ok (.ireturn, 1) := by decide +kernel
theorem d_X_factOf_60 : decode b_X_factOf 60 = .ok (.aload_n 0, 1) := by decide +kernel
theorem d_X_factOf_61 : decode b_X_factOf 61 = .ok (.getfield 54, 3) := by decide +kernel
theorem d_X_factOf_64 : decode b_X_factOf 64 = .ok (.getfield 177, 3) := by decide +kernel
theorem d_X_factOf_67 : decode b_X_factOf 67 = .ok (.ireturn, 1) := by decide +kernel
theorem d_X_factOf_68 : decode b_X_factOf 68 = .ok (.aload_n 0, 1) := by decide +kernel
theorem d_X_factOf_69 : decode b_X_factOf 69 = .ok (.getfield 54, 3) := by decide +kernel
theorem d_X_factOf_72 : decode b_X_factOf 72 = .ok (.getfield 371, 3) := by decide +kernel
theorem d_X_factOf_75 : decode b_X_factOf 75 = .ok (.ireturn, 1) := by decide +kernel
theorem d_X_factOf_76 : decode b_X_factOf 76 = .ok (.aload_n 0, 1) := by decide +kernel
theorem d_X_factOf_77 : decode b_X_factOf 77 = .ok (.getfield 47, 3) := by decide +kernel
theorem d_X_factOf_80 : decode b_X_factOf 80 = .ok (.aload_n 0, 1) := by decide +kernel
theorem d_X_factOf_81 : decode b_X_factOf 81 = .ok (.getfield 54, 3) := by decide +kernel
theorem d_X_factOf_84 : decode b_X_factOf 84 = .ok (.getfield 184, 3) := by decide +kernel
theorem d_X_factOf_87 : decode b_X_factOf 87 = .ok (.invokevirtual 187, 3) := by decide +kernel
theorem d_X_factOf_90 : decode b_X_factOf 90 = .ok (.aload_n 0, 1) := by decide +kernel
theorem d_X_factOf_91 : decode b_X_factOf 91 = .ok (.getfield 47, 3) := by decide +kernel
theorem d_X_factOf_94 : decode b_X_factOf 94 = .ok (.getfield 204, 3) := by decide +kernel
theorem d_X_factOf_97 : decode b_X_factOf 97 = .ok (.ireturn, 1) := by decide +kernel
theorem d_X_driftOf_0 : decode b_X_driftOf 0 = .ok (.aload_n 1, 1) := by decide +kernel
theorem d_X_driftOf_1 : decode b_X_driftOf 1 = .ok (.getfield 184, 3) := by decide +kernel
theorem d_X_driftOf_4 : decode b_X_driftOf 4 = .ok (.istore_n 2, 1) := by decide +kernel
theorem d_X_driftOf_5 : decode b_X_driftOf 5 = .ok (.iconst 0, 1) := by decide +kernel
theorem d_X_driftOf_6 : decode b_X_driftOf 6 = .ok (.istore_n 3, 1) := by decide +kernel
theorem d_X_driftOf_7 : decode b_X_driftOf 7 = .ok (.iload_n 3, 1) := by decide +kernel
theorem d_X_driftOf_8 : decode b_X_driftOf 8 = .ok (.iconst 4, 1) := by decide +kernel
theorem d_X_driftOf_9 : decode b_X_driftOf 9 = .ok (.if_icmp .ge 17, 3) := by decide +kernel
theorem d_X_driftOf_12 : decode b_X_driftOf 12 = .ok (.aload_n 1, 1) := by decide +kernel
theorem d_X_driftOf_13 : decode b_X_driftOf 13 = .ok (.aload_n 0, 1) := by decide +kernel
theorem d_X_driftOf_14 : decode b_X_driftOf 14 = .ok (.getfield 47, 3) := by decide +kernel
theorem d_X_driftOf_17 : decode b_X_driftOf 17 = .ok (.invokevirtual 374, 3) := by decide +kernel
theorem d_X_driftOf_20 : decode b_X_driftOf 20 = .ok (.iinc 3 1, 3) := by decide +kernel
theorem d_X_driftOf_23 : decode b_X_driftOf 23 = .ok (.goto (-16), 3) := by decide +kernel
theorem d_X_driftOf_26 : decode b_X_driftOf 26 = .ok (.aload_n 0, 1) := by decide +kernel
theorem d_X_driftOf_27 : decode b_X_driftOf 27 = .ok (.iload_n 2, 1) := by decide +kernel
theorem d_X_driftOf_28 : decode b_X_driftOf 28 = .ok (.aload_n 1, 1) := by decide +kernel
theorem d_X_driftOf_29 : decode b_X_driftOf 29 = .ok (.getfield 184, 3) := by decide +kernel
theorem d_X_driftOf_32 : decode b_X_driftOf 32 = .ok (.invokevirtual 247, 3) := by decide +kernel
theorem d_X_driftOf_35 : decode b_X_driftOf 35 = .ok (.ireturn, 1) := by decide +kernel
theorem d_X_comesAgain_0 : decode b_X_comesAgain 0 = .ok (.aload_n 0, 1) := by decide +kernel
theorem d_X_comesAgain_1 : decode b_X_comesAgain 1 = .ok (.getfield 47, 3) := by decide +kernel
theorem d_X_comesAgain_4 : decode b_X_comesAgain 4 = .ok (.invokevirtual 241, 3) := by decide +kernel
theorem d_X_comesAgain_7 : decode b_X_comesAgain 7 = .ok (.iload_n 2, 1) := by decide +kernel
theorem d_X_comesAgain_8 : decode b_X_comesAgain 8 = .ok (.istore_n 3, 1) := by decide +kernel
theorem d_X_comesAgain_9 : decode b_X_comesAgain 9 = .ok (.iload_n 3, 1) := by decide +kernel
theorem d_X_comesAgain_10 : decode b_X_comesAgain 10 = .ok (.aload_n 0, 1) := by decide +kernel
theorem d_X_comesAgain_11 : decode b_X_comesAgain 11 = .ok (.getfield 14, 3) := by decide +kernel
theorem d_X_comesAgain_14 : decode b_X_comesAgain 14 = .ok (.iload_n 1, 1) := by decide +kernel
theorem d_X_comesAgain_15 : decode b_X_comesAgain 15 = .ok (.iaload, 1) := by decide +kernel
theorem d_X_comesAgain_16 : decode b_X_comesAgain 16 = .ok (.if_icmp .ge 36, 3) := by decide +kernel
theorem d_X_comesAgain_19 : decode b_X_comesAgain 19 = .ok (.aload_n 0, 1) := by decide +kernel
theorem d_X_comesAgain_20 : decode b_X_comesAgain 20 = .ok (.getfield 47, 3) := by decide +kernel
theorem d_X_comesAgain_23 : decode b_X_comesAgain 23 = .ok (.aload_n 0, 1) := by decide +kernel
theorem d_X_comesAgain_24 : decode b_X_comesAgain 24 = .ok (.getfield 11, 3) := by decide +kernel
theorem d_X_comesAgain_27 : decode b_X_comesAgain 27 = .ok (.iload_n 1, 1) := by decide +kernel
theorem d_X_comesAgain_28 : decode b_X_comesAgain 28 = .ok (.aaload, 1) := by decide +kernel
theorem d_X_comesAgain_29 : decode b_X_comesAgain 29 = .ok (.iload_n 3, 1) := by decide +kernel
theorem d_X_comesAgain_30 : decode b_X_comesAgain 30 = .ok (.iaload, 1) := by decide +kernel
theorem d_X_comesAgain_31 : decode b_X_comesAgain 31 = .ok (.invokevirtual 291, 3) := by decide +kernel
theorem d_X_comesAgain_34 : decode b_X_comesAgain 34 = .ok (.aload_n 0, 1) := by decide +kernel
theorem d_X_comesAgain_35 : decode b_X_comesAgain 35 = .ok (.getfield 47, 3) := by decide +kernel
theorem d_X_comesAgain_38 : decode b_X_comesAgain 38 = .ok (.getfield 204, 3) := by decide +kernel
theorem d_X_comesAgain_41 : decode b_X_comesAgain 41 = .ok (.ifCond .ne 5, 3) := by decide +kernel
theorem d_X_comesAgain_44 : decode b_X_comesAgain 44 = .ok (.iconst 1, 1) := by decide +kernel
theorem d_X_comesAgain_45 : decode b_X_comesAgain 45 = .ok (.ireturn, 1) := by decide +kernel
theorem d_X_comesAgain_46 : decode b_X_comesAgain 46 = .ok (.iinc 3 1, 3) := by decide +kernel
theorem d_X_comesAgain_49 : decode b_X_comesAgain 49 = .ok (.goto (-40), 3) := by decide +kernel
theorem d_X_comesAgain_52 : decode b_X_comesAgain 52 = .ok (.iconst 0, 1) := by decide +kernel
theorem d_X_comesAgain_53 : decode b_X_comesAgain 53 = .ok (.ireturn, 1) := by decide +kernel
theorem d_X_postGuards_0 : decode b_X_postGuards 0 = .ok (.aload_n 0, 1) := by decide +kernel
theorem d_X_postGuards_1 : decode b_X_postGuards 1 = .ok (.getfield 85, 3) := by decide +kernel
theorem d_X_postGuards_4 : decode b_X_postGuards 4 = .ok (.aload_n 0, 1) := by decide +kernel
theorem d_X_postGuards_5 : decode b_X_postGuards 5 = .ok (.getfield 47, 3) := by decide +kernel
theorem d_X_postGuards_8 : decode b_X_postGuards 8 = .ok (.invokevirtual 314, 3) := by decide +kernel
theorem d_X_postGuards_11 : decode b_X_postGuards 11 = .ok (.aload_n 0, 1) := by decide +kernel
theorem d_X_postGuards_12 : decode b_X_postGuards 12 = .ok (.getfield 85, 3) := by decide +kernel
theorem d_X_postGuards_15 : decode b_X_postGuards 15 = .ok (.iconst 0, 1) := by decide +kernel
theorem d_X_postGuards_16 : decode b_X_postGuards 16 = .ok (.putfield 377, 3) := by decide +kernel
theorem d_X_postGuards_19 : decode b_X_postGuards 19 = .ok (.iconst 0, 1) := by decide +kernel
theorem d_X_postGuards_20 : decode b_X_postGuards 20 = .ok (.istore_n 2, 1) := by decide +kernel
theorem d_X_postGuards_21 : decode b_X_postGuards 21 = .ok (.iload_n 2, 1) := by decide +kernel
theorem d_X_postGuards_22 : decode b_X_postGuards 22 = .ok (.aload_n 0, 1) := by decide +kernel
theorem d_X_postGuards_23 : decode b_X_postGuards 23 = .ok (.getfield 14, 3) := by decide +kernel
theorem d_X_postGuards_26 : decode b_X_postGuards 26 = .ok (.iload_n 1, 1) := by decide +kernel
theorem d_X_postGuards_27 : decode b_X_postGuards 27 = .ok (.iaload, 1) := by decide +kernel
theorem d_X_postGuards_28 : decode b_X_postGuards 28 = .ok (.if_icmp .ge 28, 3) := by decide +kernel
theorem d_X_postGuards_31 : decode b_X_postGuards 31 = .ok (.aload_n 0, 1) := by decide +kernel
theorem d_X_postGuards_32 : decode b_X_postGuards 32 = .ok (.getfield 85, 3) := by decide +kernel
theorem d_X_postGuards_35 : decode b_X_postGuards 35 = .ok (.aload_n 0, 1) := by decide +kernel
theorem d_X_postGuards_36 : decode b_X_postGuards 36 = .ok (.aload_n 0, 1) := by decide +kernel
theorem d_X_postGuards_37 : decode b_X_postGuards 37 = .ok (.getfield 11, 3) := by decide +kernel
theorem d_X_postGuards_40 : decode b_X_postGuards 40 = .ok (.iload_n 1, 1) := by decide +kernel
theorem d_X_postGuards_41 : decode b_X_postGuards 41 = .ok (.aaload, 1) := by decide +kernel
theorem d_X_postGuards_42 : decode b_X_postGuards 42 = .ok (.iload_n 2, 1) := by decide +kernel
theorem d_X_postGuards_43 : decode b_X_postGuards 43 = .ok (.iaload, 1) := by decide +kernel
theorem d_X_postGuards_44 : decode b_X_postGuards 44 = .ok (.invokevirtual 211, 3) := by decide +kernel
theorem d_X_postGuards_47 : decode b_X_postGuards 47 = .ok (.invokevirtual 380, 3) := by decide +kernel
theorem d_X_postGuards_50 : decode b_X_postGuards 50 = .ok (.iinc 2 1, 3) := by decide +kernel
theorem d_X_postGuards_53 : decode b_X_postGuards 53 = .ok (.goto (-32), 3) := by decide +kernel
theorem d_X_postGuards_56 : decode b_X_postGuards 56 = .ok (.return_, 1) := by decide +kernel
theorem d_X_howManyKept_0 : decode b_X_howManyKept 0 = .ok (.iconst 0, 1) := by decide +kernel
theorem d_X_howManyKept_1 : decode b_X_howManyKept 1 = .ok (.istore_n 1, 1) := by decide +kernel
theorem d_X_howManyKept_2 : decode b_X_howManyKept 2 = .ok (.iconst 0, 1) := by decide +kernel
theorem d_X_howManyKept_3 : decode b_X_howManyKept 3 = .ok (.istore_n 2, 1) := by decide +kernel
theorem d_X_howManyKept_4 : decode b_X_howManyKept 4 = .ok (.iload_n 2, 1) := by decide +kernel
theorem d_X_howManyKept_5 : decode b_X_howManyKept 5 = .ok (.iconst 3, 1) := by decide +kernel
theorem d_X_howManyKept_6 : decode b_X_howManyKept 6 = .ok (.if_icmp .ge 24, 3) := by decide +kernel
theorem d_X_howManyKept_9 : decode b_X_howManyKept 9 = .ok (.aload_n 0, 1) := by decide +kernel
theorem d_X_howManyKept_10 : decode b_X_howManyKept 10 = .ok (.getfield 40, 3) := by decide +kernel
theorem d_X_howManyKept_13 : decode b_X_howManyKept 13 = .ok (.iload_n 2, 1) := by decide +kernel
theorem d_X_howManyKept_14 : decode b_X_howManyKept 14 = .ok (.aaload, 1) := by decide +kernel
theorem d_X_howManyKept_15 : decode b_X_howManyKept 15 = .ok (.getfield 158, 3) := by decide +kernel
theorem d_X_howManyKept_18 : decode b_X_howManyKept 18 = .ok (.ifCond .le 6, 3) := by decide +kernel
theorem d_X_howManyKept_21 : decode b_X_howManyKept 21 = .ok (.iinc 1 1, 3) := by decide +kernel
theorem d_X_howManyKept_24 : decode b_X_howManyKept 24 = .ok (.iinc 2 1, 3) := by decide +kernel
theorem d_X_howManyKept_27 : decode b_X_howManyKept 27 = .ok (.goto (-23), 3) := by decide +kernel
theorem d_X_howManyKept_30 : decode b_X_howManyKept 30 = .ok (.iload_n 1, 1) := by decide +kernel
theorem d_X_howManyKept_31 : decode b_X_howManyKept 31 = .ok (.ireturn, 1) := by decide +kernel
theorem d_X_howManyThere_0 : decode b_X_howManyThere 0 = .ok (.iconst 0, 1) := by decide +kernel
theorem d_X_howManyThere_1 : decode b_X_howManyThere 1 = .ok (.istore_n 1, 1) := by decide +kernel
theorem d_X_howManyThere_2 : decode b_X_howManyThere 2 = .ok (.aload_n 0, 1) := by decide +kernel
theorem d_X_howManyThere_3 : decode b_X_howManyThere 3 = .ok (.astore_n 2, 1) := by decide +kernel
theorem d_X_howManyThere_4 : decode b_X_howManyThere 4 = .ok (.aload_n 2, 1) := by decide +kernel
theorem d_X_howManyThere_5 : decode b_X_howManyThere 5 = .ok (.arraylength, 1) := by decide +kernel
theorem d_X_howManyThere_6 : decode b_X_howManyThere 6 = .ok (.istore_n 3, 1) := by decide +kernel
theorem d_X_howManyThere_7 : decode b_X_howManyThere 7 = .ok (.iconst 0, 1) := by decide +kernel
theorem d_X_howManyThere_8 : decode b_X_howManyThere 8 = .ok (.istore 4, 2) := by decide +kernel
theorem d_X_howManyThere_10 : decode b_X_howManyThere 10 = .ok (.iload 4, 2) := by decide +kernel
theorem d_X_howManyThere_12 : decode b_X_howManyThere 12 = .ok (.iload_n 3, 1) := by decide +kernel
theorem d_X_howManyThere_13 : decode b_X_howManyThere 13 = .ok (.if_icmp .ge 23, 3) := by decide +kernel
theorem d_X_howManyThere_16 : decode b_X_howManyThere 16 = .ok (.aload_n 2, 1) := by decide +kernel
theorem d_X_howManyThere_17 : decode b_X_howManyThere 17 = .ok (.iload 4, 2) := by decide +kernel
theorem d_X_howManyThere_19 : decode b_X_howManyThere 19 = .ok (.iaload, 1) := by decide +kernel
theorem d_X_howManyThere_20 : decode b_X_howManyThere 20 = .ok (.istore 5, 2) := by decide +kernel
theorem d_X_howManyThere_22 : decode b_X_howManyThere 22 = .ok (.iload 5, 2) := by decide +kernel
theorem d_X_howManyThere_24 : decode b_X_howManyThere 24 = .ok (.ifCond .lt 6, 3) := by decide +kernel
theorem d_X_howManyThere_27 : decode b_X_howManyThere 27 = .ok (.iinc 1 1, 3) := by decide +kernel
theorem d_X_howManyThere_30 : decode b_X_howManyThere 30 = .ok (.iinc 4 1, 3) := by decide +kernel
theorem d_X_howManyThere_33 : decode b_X_howManyThere 33 = .ok (.goto (-23), 3) := by decide +kernel
theorem d_X_howManyThere_36 : decode b_X_howManyThere 36 = .ok (.iload_n 1, 1) := by decide +kernel
theorem d_X_howManyThere_37 : decode b_X_howManyThere 37 = .ok (.ireturn, 1) := by decide +kernel
theorem d_X_crossingsAt_0 : decode b_X_crossingsAt 0 = .ok (.iload_n 0, 1) := by decide +kernel
theorem d_X_crossingsAt_1 : decode b_X_crossingsAt 1 = .ok (.ifCond .gt 13, 3) := by decide +kernel
theorem d_X_crossingsAt_4 : decode b_X_crossingsAt 4 = .ok (.iload_n 0, 1) := by decide +kernel
theorem d_X_crossingsAt_5 : decode b_X_crossingsAt 5 = .ok (.ifCond .ne 7, 3) := by decide +kernel
theorem d_X_crossingsAt_8 : decode b_X_crossingsAt 8 = .ok (.lconst 1, 1) := by decide +kernel
theorem d_X_crossingsAt_9 : decode b_X_crossingsAt 9 = .ok (.goto 4, 3) := by decide +kernel
theorem d_X_crossingsAt_12 : decode b_X_crossingsAt 12 = .ok (.lconst 0, 1) := by decide +kernel
theorem d_X_crossingsAt_13 : decode b_X_crossingsAt 13 = .ok (.lreturn, 1) := by decide +kernel
theorem d_X_crossingsAt_14 : decode b_X_crossingsAt 14 = .ok (.lconst 0, 1) := by decide +kernel
theorem d_X_crossingsAt_15 : decode b_X_crossingsAt 15 = .ok (.lstore_n 1, 1) := by decide +kernel
theorem d_X_crossingsAt_16 : decode b_X_crossingsAt 16 = .ok (.ldc2_w 286, 3) := by decide +kernel
theorem d_X_crossingsAt_19 : decode b_X_crossingsAt 19 = .ok (.lstore_n 3, 1) := by decide +kernel
theorem d_X_crossingsAt_20 : decode b_X_crossingsAt 20 = .ok (.iconst 1, 1) := by decide +kernel
theorem d_X_crossingsAt_21 : decode b_X_crossingsAt 21 = .ok (.istore 5, 2) := by decide +kernel
theorem d_X_crossingsAt_23 : decode b_X_crossingsAt 23 = .ok (.iload 5, 2) := by decide +kernel
theorem d_X_crossingsAt_25 : decode b_X_crossingsAt 25 = .ok (.iload_n 0, 1) := by decide +kernel
theorem d_X_crossingsAt_26 : decode b_X_crossingsAt 26 = .ok (.if_icmp .ge 23, 3) := by decide +kernel
theorem d_X_crossingsAt_29 : decode b_X_crossingsAt 29 = .ok (.ldc2_w 383, 3) := by decide +kernel
theorem d_X_crossingsAt_32 : decode b_X_crossingsAt 32 = .ok (.lload_n 3, 1) := by decide +kernel
theorem d_X_crossingsAt_33 : decode b_X_crossingsAt 33 = .ok (.lmul, 1) := by decide +kernel
theorem d_X_crossingsAt_34 : decode b_X_crossingsAt 34 = .ok (.lload_n 1, 1) := by decide +kernel
theorem d_X_crossingsAt_35 : decode b_X_crossingsAt 35 = .ok (.lsub, 1) := by decide +kernel
theorem d_X_crossingsAt_36 : decode b_X_crossingsAt 36 = .ok (.lstore 6, 2) := by decide +kernel
theorem d_X_crossingsAt_38 : decode b_X_crossingsAt 38 = .ok (.lload_n 3, 1) := by decide +kernel
theorem d_X_crossingsAt_39 : decode b_X_crossingsAt 39 = .ok (.lstore_n 1, 1) := by decide +kernel
theorem d_X_crossingsAt_40 : decode b_X_crossingsAt 40 = .ok (.lload 6, 2) := by decide +kernel
theorem d_X_crossingsAt_42 : decode b_X_crossingsAt 42 = .ok (.lstore_n 3, 1) := by decide +kernel
theorem d_X_crossingsAt_43 : decode b_X_crossingsAt 43 = .ok (.iinc 5 1, 3) := by decide +kernel
theorem d_X_crossingsAt_46 : decode b_X_crossingsAt 46 = .ok (.goto (-23), 3) := by decide +kernel
theorem d_X_crossingsAt_49 : decode b_X_crossingsAt 49 = .ok (.lload_n 3, 1) := by decide +kernel
theorem d_X_crossingsAt_50 : decode b_X_crossingsAt 50 = .ok (.lreturn, 1) := by decide +kernel
theorem d_X_crossingsUpTo_0 : decode b_X_crossingsUpTo 0 = .ok (.lconst 0, 1) := by decide +kernel
theorem d_X_crossingsUpTo_1 : decode b_X_crossingsUpTo 1 = .ok (.lstore_n 1, 1) := by decide +kernel
theorem d_X_crossingsUpTo_2 : decode b_X_crossingsUpTo 2 = .ok (.iconst 0, 1) := by decide +kernel
theorem d_X_crossingsUpTo_3 : decode b_X_crossingsUpTo 3 = .ok (.istore_n 3, 1) := by decide +kernel
theorem d_X_crossingsUpTo_4 : decode b_X_crossingsUpTo 4 = .ok (.iload_n 3, 1) := by decide +kernel
theorem d_X_crossingsUpTo_5 : decode b_X_crossingsUpTo 5 = .ok (.iload_n 0, 1) := by decide +kernel
theorem d_X_crossingsUpTo_6 : decode b_X_crossingsUpTo 6 = .ok (.if_icmp .gt 16, 3) := by decide +kernel
theorem d_X_crossingsUpTo_9 : decode b_X_crossingsUpTo 9 = .ok (.lload_n 1, 1) := by decide +kernel
theorem d_X_crossingsUpTo_10 : decode b_X_crossingsUpTo 10 = .ok (.iload_n 3, 1) := by decide +kernel
theorem d_X_crossingsUpTo_11 : decode b_X_crossingsUpTo 11 = .ok (.invokestatic 273, 3) := by decide +kernel
theorem d_X_crossingsUpTo_14 : decode b_X_crossingsUpTo 14 = .ok (.ladd, 1) := by decide +kernel
theorem d_X_crossingsUpTo_15 : decode b_X_crossingsUpTo 15 = .ok (.lstore_n 1, 1) := by decide +kernel
theorem d_X_crossingsUpTo_16 : decode b_X_crossingsUpTo 16 = .ok (.iinc 3 1, 3) := by decide +kernel
theorem d_X_crossingsUpTo_19 : decode b_X_crossingsUpTo 19 = .ok (.goto (-15), 3) := by decide +kernel
theorem d_X_crossingsUpTo_22 : decode b_X_crossingsUpTo 22 = .ok (.lload_n 1, 1) := by decide +kernel
theorem d_X_crossingsUpTo_23 : decode b_X_crossingsUpTo 23 = .ok (.lreturn, 1) := by decide +kernel
theorem d_X_crossingsNotBy1_0 : decode b_X_crossingsNotBy1 0 = .ok (.lconst 0, 1) := by decide +kernel
theorem d_X_crossingsNotBy1_1 : decode b_X_crossingsNotBy1 1 = .ok (.lstore_n 1, 1) := by decide +kernel
theorem d_X_crossingsNotBy1_2 : decode b_X_crossingsNotBy1 2 = .ok (.iconst 0, 1) := by decide +kernel
theorem d_X_crossingsNotBy1_3 : decode b_X_crossingsNotBy1 3 = .ok (.istore_n 3, 1) := by decide +kernel
theorem d_X_crossingsNotBy1_4 : decode b_X_crossingsNotBy1 4 = .ok (.iload_n 3, 1) := by decide +kernel
theorem d_X_crossingsNotBy1_5 : decode b_X_crossingsNotBy1 5 = .ok (.iload_n 0, 1) := by decide +kernel
theorem d_X_crossingsNotBy1_6 : decode b_X_crossingsNotBy1 6 = .ok (.if_icmp .gt 16, 3) := by decide +kernel
theorem d_X_crossingsNotBy1_9 : decode b_X_crossingsNotBy1 9 = .ok (.iload_n 3, 1) := by decide +kernel
theorem d_X_crossingsNotBy1_10 : decode b_X_crossingsNotBy1 10 = .ok (.invokestatic 273, 3) := by decide +kernel
theorem d_X_crossingsNotBy1_13 : decode b_X_crossingsNotBy1 13 = .ok (.lload_n 1, 1) := by decide +kernel
theorem d_X_crossingsNotBy1_14 : decode b_X_crossingsNotBy1 14 = .ok (.lsub, 1) := by decide +kernel
theorem d_X_crossingsNotBy1_15 : decode b_X_crossingsNotBy1 15 = .ok (.lstore_n 1, 1) := by decide +kernel
theorem d_X_crossingsNotBy1_16 : decode b_X_crossingsNotBy1 16 = .ok (.iinc 3 1, 3) := by decide +kernel
theorem d_X_crossingsNotBy1_19 : decode b_X_crossingsNotBy1 19 = .ok (.goto (-15), 3) := by decide +kernel
theorem d_X_crossingsNotBy1_22 : decode b_X_crossingsNotBy1 22 = .ok (.lload_n 1, 1) := by decide +kernel
theorem d_X_crossingsNotBy1_23 : decode b_X_crossingsNotBy1 23 = .ok (.lreturn, 1) := by decide +kernel
theorem d_X_crossingsNotBy2_0 : decode b_X_crossingsNotBy2 0 = .ok (.lconst 0, 1) := by decide +kernel
theorem d_X_crossingsNotBy2_1 : decode b_X_crossingsNotBy2 1 = .ok (.lstore_n 1, 1) := by decide +kernel
theorem d_X_crossingsNotBy2_2 : decode b_X_crossingsNotBy2 2 = .ok (.iload_n 0, 1) := by decide +kernel
theorem d_X_crossingsNotBy2_3 : decode b_X_crossingsNotBy2 3 = .ok (.iconst 2, 1) := by decide +kernel
theorem d_X_crossingsNotBy2_4 : decode b_X_crossingsNotBy2 4 = .ok (.irem, 1) := by decide +kernel
theorem d_X_crossingsNotBy2_5 : decode b_X_crossingsNotBy2 5 = .ok (.istore_n 3, 1) := by decide +kernel
theorem d_X_crossingsNotBy2_6 : decode b_X_crossingsNotBy2 6 = .ok (.iload_n 3, 1) := by decide +kernel
theorem d_X_crossingsNotBy2_7 : decode b_X_crossingsNotBy2 7 = .ok (.iload_n 0, 1) := by decide +kernel
theorem d_X_crossingsNotBy2_8 : decode b_X_crossingsNotBy2 8 = .ok (.if_icmp .gt 27, 3) := by decide +kernel
theorem d_X_crossingsNotBy2_11 : decode b_X_crossingsNotBy2 11 = .ok (.iload_n 3, 1) := by decide +kernel
theorem d_X_crossingsNotBy2_12 : decode b_X_crossingsNotBy2 12 = .ok (.invokestatic 273, 3) := by decide +kernel
theorem d_X_crossingsNotBy2_15 : decode b_X_crossingsNotBy2 15 = .ok (.ldc2_w 385, 3) := by decide +kernel
theorem d_X_crossingsNotBy2_18 : decode b_X_crossingsNotBy2 18 = .ok (.iload_n 3, 1) := by decide +kernel
theorem d_X_crossingsNotBy2_19 : decode b_X_crossingsNotBy2 19 = .ok (.iconst 1, 1) := by decide +kernel
theorem d_X_crossingsNotBy2_20 : decode b_X_crossingsNotBy2 20 = .ok (.isub, 1) := by decide +kernel
theorem d_X_crossingsNotBy2_21 : decode b_X_crossingsNotBy2 21 = .ok (.invokestatic 280, 3) := by decide +kernel
theorem d_X_crossingsNotBy2_24 : decode b_X_crossingsNotBy2 24 = .ok (.lmul, 1) := by decide +kernel
theorem d_X_crossingsNotBy2_25 : decode b_X_crossingsNotBy2 25 = .ok (.lsub, 1) := by decide +kernel
theorem d_X_crossingsNotBy2_26 : decode b_X_crossingsNotBy2 26 = .ok (.lload_n 1, 1) := by decide +kernel
theorem d_X_crossingsNotBy2_27 : decode b_X_crossingsNotBy2 27 = .ok (.ladd, 1) := by decide +kernel
theorem d_X_crossingsNotBy2_28 : decode b_X_crossingsNotBy2 28 = .ok (.lstore_n 1, 1) := by decide +kernel
theorem d_X_crossingsNotBy2_29 : decode b_X_crossingsNotBy2 29 = .ok (.iinc 3 2, 3) := by decide +kernel
theorem d_X_crossingsNotBy2_32 : decode b_X_crossingsNotBy2 32 = .ok (.goto (-26), 3) := by decide +kernel
theorem d_X_crossingsNotBy2_35 : decode b_X_crossingsNotBy2 35 = .ok (.lload_n 1, 1) := by decide +kernel
theorem d_X_crossingsNotBy2_36 : decode b_X_crossingsNotBy2 36 = .ok (.lreturn, 1) := by decide +kernel
theorem d_M_init_0 : decode b_M_init 0 = .ok (.aload_n 0, 1) := by decide +kernel
theorem d_M_init_1 : decode b_M_init 1 = .ok (.invokespecial 1, 3) := by decide +kernel
theorem d_M_init_4 : decode b_M_init 4 = .ok (.aload_n 0, 1) := by decide +kernel
theorem d_M_init_5 : decode b_M_init 5 = .ok (.bipush 6, 2) := by decide +kernel
theorem d_M_init_7 : decode b_M_init 7 = .ok (.newarray .int, 2) := by decide +kernel
theorem d_M_init_9 : decode b_M_init 9 = .ok (.putfield 7, 3) := by decide +kernel
theorem d_M_init_12 : decode b_M_init 12 = .ok (.aload_n 0, 1) := by decide +kernel
theorem d_M_init_13 : decode b_M_init 13 = .ok (.sipush 240, 3) := by decide +kernel
theorem d_M_init_16 : decode b_M_init 16 = .ok (.newarray .int, 2) := by decide +kernel
theorem d_M_init_18 : decode b_M_init 18 = .ok (.putfield 13, 3) := by decide +kernel
theorem d_M_init_21 : decode b_M_init 21 = .ok (.aload_n 0, 1) := by decide +kernel
theorem d_M_init_22 : decode b_M_init 22 = .ok (.iconst 4, 1) := by decide +kernel
theorem d_M_init_23 : decode b_M_init 23 = .ok (.newarray .int, 2) := by decide +kernel
theorem d_M_init_25 : decode b_M_init 25 = .ok (.putfield 16, 3) := by decide +kernel
theorem d_M_init_28 : decode b_M_init 28 = .ok (.aload_n 0, 1) := by decide +kernel
theorem d_M_init_29 : decode b_M_init 29 = .ok (.sipush 320, 3) := by decide +kernel
theorem d_M_init_32 : decode b_M_init 32 = .ok (.newarray .int, 2) := by decide +kernel
theorem d_M_init_34 : decode b_M_init 34 = .ok (.putfield 19, 3) := by decide +kernel
theorem d_M_init_37 : decode b_M_init 37 = .ok (.aload_n 0, 1) := by decide +kernel
theorem d_M_init_38 : decode b_M_init 38 = .ok (.bipush 27, 2) := by decide +kernel
theorem d_M_init_40 : decode b_M_init 40 = .ok (.newarray .int, 2) := by decide +kernel
theorem d_M_init_42 : decode b_M_init 42 = .ok (.putfield 22, 3) := by decide +kernel
theorem d_M_init_45 : decode b_M_init 45 = .ok (.aload_n 0, 1) := by decide +kernel
theorem d_M_init_46 : decode b_M_init 46 = .ok (.sipush 1620, 3) := by decide +kernel
theorem d_M_init_49 : decode b_M_init 49 = .ok (.newarray .int, 2) := by decide +kernel
theorem d_M_init_51 : decode b_M_init 51 = .ok (.putfield 25, 3) := by decide +kernel
theorem d_M_init_54 : decode b_M_init 54 = .ok (.aload_n 0, 1) := by decide +kernel
theorem d_M_init_55 : decode b_M_init 55 = .ok (.bipush 81, 2) := by decide +kernel
theorem d_M_init_57 : decode b_M_init 57 = .ok (.newarray .int, 2) := by decide +kernel
theorem d_M_init_59 : decode b_M_init 59 = .ok (.putfield 28, 3) := by decide +kernel
theorem d_M_init_62 : decode b_M_init 62 = .ok (.aload_n 0, 1) := by decide +kernel
theorem d_M_init_63 : decode b_M_init 63 = .ok (.sipush 4860, 3) := by decide +kernel
theorem d_M_init_66 : decode b_M_init 66 = .ok (.newarray .int, 2) := by decide +kernel
theorem d_M_init_68 : decode b_M_init 68 = .ok (.putfield 31, 3) := by decide +kernel
theorem d_M_init_71 : decode b_M_init 71 = .ok (.aload_n 0, 1) := by decide +kernel
theorem d_M_init_72 : decode b_M_init 72 = .ok (.iconst 3, 1) := by decide +kernel
theorem d_M_init_73 : decode b_M_init 73 = .ok (.newarray .boolean, 2) := by decide +kernel
theorem d_M_init_75 : decode b_M_init 75 = .ok (.putfield 34, 3) := by decide +kernel
theorem d_M_init_78 : decode b_M_init 78 = .ok (.aload_n 0, 1) := by decide +kernel
theorem d_M_init_79 : decode b_M_init 79 = .ok (.lconst 1, 1) := by decide +kernel
theorem d_M_init_80 : decode b_M_init 80 = .ok (.putfield 38, 3) := by decide +kernel
theorem d_M_init_83 : decode b_M_init 83 = .ok (.aload_n 0, 1) := by decide +kernel
theorem d_M_init_84 : decode b_M_init 84 = .ok (.bipush 6, 2) := by decide +kernel
theorem d_M_init_86 : decode b_M_init 86 = .ok (.newarray .int, 2) := by decide +kernel
theorem d_M_init_88 : decode b_M_init 88 = .ok (.putfield 42, 3) := by decide +kernel
theorem d_M_init_91 : decode b_M_init 91 = .ok (.aload_n 0, 1) := by decide +kernel
theorem d_M_init_92 : decode b_M_init 92 = .ok (.bipush 27, 2) := by decide +kernel
theorem d_M_init_94 : decode b_M_init 94 = .ok (.newarray .int, 2) := by decide +kernel
theorem d_M_init_96 : decode b_M_init 96 = .ok (.putfield 45, 3) := by decide +kernel
theorem d_M_init_99 : decode b_M_init 99 = .ok (.aload_n 0, 1) := by decide +kernel
theorem d_M_init_100 : decode b_M_init 100 = .ok (.bipush 64, 2) := by decide +kernel
theorem d_M_init_102 : decode b_M_init 102 = .ok (.newarray .int, 2) := by decide +kernel
theorem d_M_init_104 : decode b_M_init 104 = .ok (.putfield 48, 3) := by decide +kernel
theorem d_M_init_107 : decode b_M_init 107 = .ok (.aload_n 0, 1) := by decide +kernel
theorem d_M_init_108 : decode b_M_init 108 = .ok (.bipush 64, 2) := by decide +kernel
theorem d_M_init_110 : decode b_M_init 110 = .ok (.newarray .int, 2) := by decide +kernel
theorem d_M_init_112 : decode b_M_init 112 = .ok (.putfield 51, 3) := by decide +kernel
theorem d_M_init_115 : decode b_M_init 115 = .ok (.aload_n 0, 1) := by decide +kernel
theorem d_M_init_116 : decode b_M_init 116 = .ok (.bipush 64, 2) := by decide +kernel
theorem d_M_init_118 : decode b_M_init 118 = .ok (.newarray .int, 2) := by decide +kernel
theorem d_M_init_120 : decode b_M_init 120 = .ok (.putfield 54, 3) := by decide +kernel
theorem d_M_init_123 : decode b_M_init 123 = .ok (.aload_n 0, 1) := by decide +kernel
theorem d_M_init_124 : decode b_M_init 124 = .ok (.bipush 64, 2) := by decide +kernel
theorem d_M_init_126 : decode b_M_init 126 = .ok (.newarray .int, 2) := by decide +kernel
theorem d_M_init_128 : decode b_M_init 128 = .ok (.putfield 57, 3) := by decide +kernel
theorem d_M_init_131 : decode b_M_init 131 = .ok (.aload_n 0, 1) := by decide +kernel
theorem d_M_init_132 : decode b_M_init 132 = .ok (.bipush 64, 2) := by decide +kernel
theorem d_M_init_134 : decode b_M_init 134 = .ok (.newarray .int, 2) := by decide +kernel
theorem d_M_init_136 : decode b_M_init 136 = .ok (.putfield 60, 3) := by decide +kernel
theorem d_M_init_139 : decode b_M_init 139 = .ok (.aload_n 0, 1) := by decide +kernel
theorem d_M_init_140 : decode b_M_init 140 = .ok (.bipush 27, 2) := by decide +kernel
theorem d_M_init_142 : decode b_M_init 142 = .ok (.newarray .int, 2) := by decide +kernel
theorem d_M_init_144 : decode b_M_init 144 = .ok (.putfield 63, 3) := by decide +kernel
theorem d_M_init_147 : decode b_M_init 147 = .ok (.aload_n 0, 1) := by decide +kernel
theorem d_M_init_148 : decode b_M_init 148 = .ok (.sipush 128, 3) := by decide +kernel
theorem d_M_init_151 : decode b_M_init 151 = .ok (.newarray .int, 2) := by decide +kernel
theorem d_M_init_153 : decode b_M_init 153 = .ok (.putfield 66, 3) := by decide +kernel
theorem d_M_init_156 : decode b_M_init 156 = .ok (.aload_n 0, 1) := by decide +kernel
theorem d_M_init_157 : decode b_M_init 157 = .ok (.sipush 128, 3) := by decide +kernel
theorem d_M_init_160 : decode b_M_init 160 = .ok (.newarray .long, 2) := by decide +kernel
theorem d_M_init_162 : decode b_M_init 162 = .ok (.putfield 69, 3) := by decide +kernel
theorem d_M_init_165 : decode b_M_init 165 = .ok (.aload_n 0, 1) := by decide +kernel
theorem d_M_init_166 : decode b_M_init 166 = .ok (.bipush 64, 2) := by decide +kernel
theorem d_M_init_168 : decode b_M_init 168 = .ok (.newarray .int, 2) := by decide +kernel
theorem d_M_init_170 : decode b_M_init 170 = .ok (.putfield 73, 3) := by decide +kernel
theorem d_M_init_173 : decode b_M_init 173 = .ok (.aload_n 0, 1) := by decide +kernel
theorem d_M_init_174 : decode b_M_init 174 = .ok (.bipush 6, 2) := by decide +kernel
theorem d_M_init_176 : decode b_M_init 176 = .ok (.newarray .int, 2) := by decide +kernel
theorem d_M_init_178 : decode b_M_init 178 = .ok (.putfield 76, 3) := by decide +kernel
theorem d_M_init_181 : decode b_M_init 181 = .ok (.aload_n 0, 1) := by decide +kernel
theorem d_M_init_182 : decode b_M_init 182 = .ok (.bipush 6, 2) := by decide +kernel
theorem d_M_init_184 : decode b_M_init 184 = .ok (.newarray .int, 2) := by decide +kernel
theorem d_M_init_186 : decode b_M_init 186 = .ok (.putfield 79, 3) := by decide +kernel
theorem d_M_init_189 : decode b_M_init 189 = .ok (.aload_n 0, 1) := by decide +kernel
theorem d_M_init_190 : decode b_M_init 190 = .ok (.sipush 166, 3) := by decide +kernel
theorem d_M_init_193 : decode b_M_init 193 = .ok (.newarray .int, 2) := by decide +kernel
theorem d_M_init_195 : decode b_M_init 195 = .ok (.putfield 82, 3) := by decide +kernel
theorem d_M_init_198 : decode b_M_init 198 = .ok (.aload_n 0, 1) := by decide +kernel
theorem d_M_init_199 : decode b_M_init 199 = .ok (.bipush 20, 2) := by decide +kernel
theorem d_M_init_201 : decode b_M_init 201 = .ok (.newarray .int, 2) := by decide +kernel
theorem d_M_init_203 : decode b_M_init 203 = .ok (.putfield 85, 3) := by decide +kernel
theorem d_M_init_206 : decode b_M_init 206 = .ok (.iconst 0, 1) := by decide +kernel
theorem d_M_init_207 : decode b_M_init 207 = .ok (.istore_n 1, 1) := by decide +kernel
theorem d_M_init_208 : decode b_M_init 208 = .ok (.iload_n 1, 1) := by decide +kernel
theorem d_M_init_209 : decode b_M_init 209 = .ok (.bipush 6, 2) := by decide +kernel
theorem d_M_init_211 : decode b_M_init 211 = .ok (.if_icmp .ge 16, 3) := by decide +kernel
theorem d_M_init_214 : decode b_M_init 214 = .ok (.aload_n 0, 1) := by decide +kernel
theorem d_M_init_215 : decode b_M_init 215 = .ok (.getfield 7, 3) := by decide +kernel
theorem d_M_init_218 : decode b_M_init 218 = .ok (.iload_n 1, 1) := by decide +kernel
theorem d_M_init_219 : decode b_M_init 219 = .ok (.iconst (-1), 1) := by decide +kernel
theorem d_M_init_220 : decode b_M_init 220 = .ok (.iastore, 1) := by decide +kernel
theorem d_M_init_221 : decode b_M_init 221 = .ok (.iinc 1 1, 3) := by decide +kernel
theorem d_M_init_224 : decode b_M_init 224 = .ok (.goto (-16), 3) := by decide +kernel
theorem d_M_init_227 : decode b_M_init 227 = .ok (.iconst 0, 1) := by decide +kernel
theorem d_M_init_228 : decode b_M_init 228 = .ok (.istore_n 1, 1) := by decide +kernel
theorem d_M_init_229 : decode b_M_init 229 = .ok (.iload_n 1, 1) := by decide +kernel
theorem d_M_init_230 : decode b_M_init 230 = .ok (.iconst 4, 1) := by decide +kernel
theorem d_M_init_231 : decode b_M_init 231 = .ok (.if_icmp .ge 16, 3) := by decide +kernel
theorem d_M_init_234 : decode b_M_init 234 = .ok (.aload_n 0, 1) := by decide +kernel
theorem d_M_init_235 : decode b_M_init 235 = .ok (.getfield 16, 3) := by decide +kernel
theorem d_M_init_238 : decode b_M_init 238 = .ok (.iload_n 1, 1) := by decide +kernel
theorem d_M_init_239 : decode b_M_init 239 = .ok (.iconst (-1), 1) := by decide +kernel
theorem d_M_init_240 : decode b_M_init 240 = .ok (.iastore, 1) := by decide +kernel
theorem d_M_init_241 : decode b_M_init 241 = .ok (.iinc 1 1, 3) := by decide +kernel
theorem d_M_init_244 : decode b_M_init 244 = .ok (.goto (-15), 3) := by decide +kernel
theorem d_M_init_247 : decode b_M_init 247 = .ok (.return_, 1) := by decide +kernel
theorem d_M_in_0 : decode b_M_in 0 = .ok (.lload_n 0, 1) := by decide +kernel
theorem d_M_in_1 : decode b_M_in 1 = .ok (.lload_n 2, 1) := by decide +kernel
theorem d_M_in_2 : decode b_M_in 2 = .ok (.lcmp, 1) := by decide +kernel
theorem d_M_in_3 : decode b_M_in 3 = .ok (.ifCond .lt 14, 3) := by decide +kernel
theorem d_M_in_6 : decode b_M_in 6 = .ok (.lload_n 0, 1) := by decide +kernel
theorem d_M_in_7 : decode b_M_in 7 = .ok (.lload 4, 2) := by decide +kernel
theorem d_M_in_9 : decode b_M_in 9 = .ok (.lcmp, 1) := by decide +kernel
theorem d_M_in_10 : decode b_M_in 10 = .ok (.ifCond .gt 7, 3) := by decide +kernel
theorem d_M_in_13 : decode b_M_in 13 = .ok (.iconst 1, 1) := by decide +kernel
theorem d_M_in_14 : decode b_M_in 14 = .ok (.goto 4, 3) := by decide +kernel
theorem d_M_in_17 : decode b_M_in 17 = .ok (.iconst 0, 1) := by decide +kernel
theorem d_M_in_18 : decode b_M_in 18 = .ok (.ireturn, 1) := by decide +kernel
theorem d_M_found_0 : decode b_M_found 0 = .ok (.aload_n 0, 1) := by decide +kernel
theorem d_M_found_1 : decode b_M_found 1 = .ok (.iload_n 1, 1) := by decide +kernel
theorem d_M_found_2 : decode b_M_found 2 = .ok (.putfield 88, 3) := by decide +kernel
theorem d_M_found_5 : decode b_M_found 5 = .ok (.aload_n 0, 1) := by decide +kernel
theorem d_M_found_6 : decode b_M_found 6 = .ok (.getfield 42, 3) := by decide +kernel
theorem d_M_found_9 : decode b_M_found 9 = .ok (.iload_n 1, 1) := by decide +kernel
theorem d_M_found_10 : decode b_M_found 10 = .ok (.dup2, 1) := by decide +kernel
theorem d_M_found_11 : decode b_M_found 11 = .ok (.iaload, 1) := by decide +kernel
theorem d_M_found_12 : decode b_M_found 12 = .ok (.iconst 1, 1) := by decide +kernel
theorem d_M_found_13 : decode b_M_found 13 = .ok (.iadd, 1) := by decide +kernel
theorem d_M_found_14 : decode b_M_found 14 = .ok (.iastore, 1) := by decide +kernel
theorem d_M_found_15 : decode b_M_found 15 = .ok (.bipush (-3), 2) := by decide +kernel
theorem d_M_found_17 : decode b_M_found 17 = .ok (.ireturn, 1) := by decide +kernel
theorem d_M_tell_0 : decode b_M_tell 0 = .ok (.aload_n 0, 1) := by decide +kernel
theorem d_M_tell_1 : decode b_M_tell 1 = .ok (.iload_n 1, 1) := by decide +kernel
theorem d_M_tell_2 : decode b_M_tell 2 = .ok (.putfield 92, 3) := by decide +kernel
theorem d_M_tell_5 : decode b_M_tell 5 = .ok (.iconst 1, 1) := by decide +kernel
theorem d_M_tell_6 : decode b_M_tell 6 = .ok (.ireturn, 1) := by decide +kernel
theorem d_M_tells_0 : decode b_M_tells 0 = .ok (.lload_n 1, 1) := by decide +kernel
theorem d_M_tells_1 : decode b_M_tells 1 = .ok (.lstore 5, 2) := by decide +kernel
theorem d_M_tells_3 : decode b_M_tells 3 = .ok (.lload_n 3, 1) := by decide +kernel
theorem d_M_tells_4 : decode b_M_tells 4 = .ok (.lstore 7, 2) := by decide +kernel
theorem d_M_tells_6 : decode b_M_tells 6 = .ok (.lload 7, 2) := by decide +kernel
theorem d_M_tells_8 : decode b_M_tells 8 = .ok (.lconst 0, 1) := by decide +kernel
theorem d_M_tells_9 : decode b_M_tells 9 = .ok (.lcmp, 1) := by decide +kernel
theorem d_M_tells_10 : decode b_M_tells 10 = .ok (.ifCond .eq 21, 3) := by decide +kernel
theorem d_M_tells_13 : decode b_M_tells 13 = .ok (.lload 5, 2) := by decide +kernel
theorem d_M_tells_15 : decode b_M_tells 15 = .ok (.lload 7, 2) := by decide +kernel
theorem d_M_tells_17 : decode b_M_tells 17 = .ok (.lrem, 1) := by decide +kernel
theorem d_M_tells_18 : decode b_M_tells 18 = .ok (.lstore 9, 2) := by decide +kernel
theorem d_M_tells_20 : decode b_M_tells 20 = .ok (.lload 7, 2) := by decide +kernel
theorem d_M_tells_22 : decode b_M_tells 22 = .ok (.lstore 5, 2) := by decide +kernel
theorem d_M_tells_24 : decode b_M_tells 24 = .ok (.lload 9, 2) := by decide +kernel
theorem d_M_tells_26 : decode b_M_tells 26 = .ok (.lstore 7, 2) := by decide +kernel
theorem d_M_tells_28 : decode b_M_tells 28 = .ok (.goto (-22), 3) := by decide +kernel
theorem d_M_tells_31 : decode b_M_tells 31 = .ok (.aload_n 0, 1) := by decide +kernel
theorem d_M_tells_32 : decode b_M_tells 32 = .ok (.lload_n 1, 1) := by decide +kernel
theorem d_M_tells_33 : decode b_M_tells 33 = .ok (.lload 5, 2) := by decide +kernel
theorem d_M_tells_35 : decode b_M_tells 35 = .ok (.ldiv, 1) := by decide +kernel
theorem d_M_tells_36 : decode b_M_tells 36 = .ok (.putfield 95, 3) := by decide +kernel
theorem d_M_tells_39 : decode b_M_tells 39 = .ok (.aload_n 0, 1) := by decide +kernel
theorem d_M_tells_40 : decode b_M_tells 40 = .ok (.lload_n 3, 1) := by decide +kernel
theorem d_M_tells_41 : decode b_M_tells 41 = .ok (.lload 5, 2) := by decide +kernel
theorem d_M_tells_43 : decode b_M_tells 43 = .ok (.ldiv, 1) := by decide +kernel
theorem d_M_tells_44 : decode b_M_tells 44 = .ok (.putfield 38, 3) := by decide +kernel
theorem d_M_tells_47 : decode b_M_tells 47 = .ok (.iconst 1, 1) := by decide +kernel
theorem d_M_tells_48 : decode b_M_tells 48 = .ok (.ireturn, 1) := by decide +kernel
theorem d_M_isRow_0 : decode b_M_isRow 0 = .ok (.iload_n 0, 1) := by decide +kernel
theorem d_M_isRow_1 : decode b_M_isRow 1 = .ok (.i2l, 1) := by decide +kernel
theorem d_M_isRow_2 : decode b_M_isRow 2 = .ok (.lconst 0, 1) := by decide +kernel
theorem d_M_isRow_3 : decode b_M_isRow 3 = .ok (.ldc2_w 98, 3) := by decide +kernel
theorem d_M_isRow_6 : decode b_M_isRow 6 = .ok (.invokestatic 100, 3) := by decide +kernel
theorem d_M_isRow_9 : decode b_M_isRow 9 = .ok (.ireturn, 1) := by decide +kernel
theorem d_M_isText_0 : decode b_M_isText 0 = .ok (.iload_n 0, 1) := by decide +kernel
theorem d_M_isText_1 : decode b_M_isText 1 = .ok (.i2l, 1) := by decide +kernel
theorem d_M_isText_2 : decode b_M_isText 2 = .ok (.lconst 0, 1) := by decide +kernel
theorem d_M_isText_3 : decode b_M_isText 3 = .ok (.ldc2_w 104, 3) := by decide +kernel
theorem d_M_isText_6 : decode b_M_isText 6 = .ok (.invokestatic 100, 3) := by decide +kernel
theorem d_M_isText_9 : decode b_M_isText 9 = .ok (.ireturn, 1) := by decide +kernel
theorem d_M_row_0 : decode b_M_row 0 = .ok (.iload_n 1, 1) := by decide +kernel
theorem d_M_row_1 : decode b_M_row 1 = .ok (.invokestatic 106, 3) := by decide +kernel
theorem d_M_row_4 : decode b_M_row 4 = .ok (.ifCond .eq 9, 3) := by decide +kernel
theorem d_M_row_7 : decode b_M_row 7 = .ok (.iload_n 2, 1) := by decide +kernel
theorem d_M_row_8 : decode b_M_row 8 = .ok (.bipush 40, 2) := by decide +kernel
theorem d_M_row_10 : decode b_M_row 10 = .ok (.if_icmp .le 5, 3) := by decide +kernel
theorem d_M_row_13 : decode b_M_row 13 = .ok (.iconst (-1), 1) := by decide +kernel
theorem d_M_row_14 : decode b_M_row 14 = .ok (.ireturn, 1) := by decide +kernel
theorem d_M_row_15 : decode b_M_row 15 = .ok (.iload_n 2, 1) := by decide +kernel
theorem d_M_row_16 : decode b_M_row 16 = .ok (.ifCond .ge 9, 3) := by decide +kernel
theorem d_M_row_19 : decode b_M_row 19 = .ok (.aload_n 0, 1) := by decide +kernel
theorem d_M_row_20 : decode b_M_row 20 = .ok (.iconst 5, 1) := by decide +kernel
theorem d_M_row_21 : decode b_M_row 21 = .ok (.invokevirtual 110, 3) := by decide +kernel
theorem d_M_row_24 : decode b_M_row 24 = .ok (.ireturn, 1) := by decide +kernel
theorem d_M_row_25 : decode b_M_row 25 = .ok (.aload_n 0, 1) := by decide +kernel
theorem d_M_row_26 : decode b_M_row 26 = .ok (.getfield 7, 3) := by decide +kernel
theorem d_M_row_29 : decode b_M_row 29 = .ok (.iload_n 1, 1) := by decide +kernel
theorem d_M_row_30 : decode b_M_row 30 = .ok (.iload_n 2, 1) := by decide +kernel
theorem d_M_row_31 : decode b_M_row 31 = .ok (.iastore, 1) := by decide +kernel
theorem d_M_row_32 : decode b_M_row 32 = .ok (.iconst 0, 1) := by decide +kernel
theorem d_M_row_33 : decode b_M_row 33 = .ok (.istore_n 3, 1) := by decide +kernel
theorem d_M_row_34 : decode b_M_row 34 = .ok (.iload_n 3, 1) := by decide +kernel
theorem d_M_row_35 : decode b_M_row 35 = .ok (.bipush 40, 2) := by decide +kernel
theorem d_M_row_37 : decode b_M_row 37 = .ok (.if_icmp .ge 21, 3) := by decide +kernel
theorem d_M_row_40 : decode b_M_row 40 = .ok (.aload_n 0, 1) := by decide +kernel
theorem d_M_row_41 : decode b_M_row 41 = .ok (.getfield 13, 3) := by decide +kernel
theorem d_M_row_44 : decode b_M_row 44 = .ok (.bipush 40, 2) := by decide +kernel
theorem d_M_row_46 : decode b_M_row 46 = .ok (.iload_n 1, 1) := by decide +kernel
theorem d_M_row_47 : decode b_M_row 47 = .ok (.imul, 1) := by decide +kernel
theorem d_M_row_48 : decode b_M_row 48 = .ok (.iload_n 3, 1) := by decide +kernel
theorem d_M_row_49 : decode b_M_row 49 = .ok (.iadd, 1) := by decide +kernel
theorem d_M_row_50 : decode b_M_row 50 = .ok (.iconst 0, 1) := by decide +kernel
theorem d_M_row_51 : decode b_M_row 51 = .ok (.iastore, 1) := by decide +kernel
theorem d_M_row_52 : decode b_M_row 52 = .ok (.iinc 3 1, 3) := by decide +kernel
theorem d_M_row_55 : decode b_M_row 55 = .ok (.goto (-21), 3) := by decide +kernel
theorem d_M_row_58 : decode b_M_row 58 = .ok (.iload_n 2, 1) := by decide +kernel
theorem d_M_row_59 : decode b_M_row 59 = .ok (.ireturn, 1) := by decide +kernel
theorem d_M_lay_0 : decode b_M_lay 0 = .ok (.iload_n 1, 1) := by decide +kernel
theorem d_M_lay_1 : decode b_M_lay 1 = .ok (.invokestatic 106, 3) := by decide +kernel
theorem d_M_lay_4 : decode b_M_lay 4 = .ok (.ifCond .ne 5, 3) := by decide +kernel
theorem d_M_lay_7 : decode b_M_lay 7 = .ok (.iconst (-1), 1) := by decide +kernel
theorem d_M_lay_8 : decode b_M_lay 8 = .ok (.ireturn, 1) := by decide +kernel
theorem d_M_lay_9 : decode b_M_lay 9 = .ok (.aload_n 0, 1) := by decide +kernel
theorem d_M_lay_10 : decode b_M_lay 10 = .ok (.getfield 7, 3) := by decide +kernel
theorem d_M_lay_13 : decode b_M_lay 13 = .ok (.iload_n 1, 1) := by decide +kernel
theorem d_M_lay_14 : decode b_M_lay 14 = .ok (.iaload, 1) := by decide +kernel
theorem d_M_lay_15 : decode b_M_lay 15 = .ok (.ifCond .ge 9, 3) := by decide +kernel
theorem d_M_lay_18 : decode b_M_lay 18 = .ok (.aload_n 0, 1) := by decide +kernel
theorem d_M_lay_19 : decode b_M_lay 19 = .ok (.iconst 1, 1) := by decide +kernel
theorem d_M_lay_20 : decode b_M_lay 20 = .ok (.invokevirtual 110, 3) := by decide +kernel
theorem d_M_lay_23 : decode b_M_lay 23 = .ok (.ireturn, 1) := by decide +kernel
theorem d_M_lay_24 : decode b_M_lay 24 = .ok (.iload_n 2, 1) := by decide +kernel
theorem d_M_lay_25 : decode b_M_lay 25 = .ok (.i2l, 1) := by decide +kernel
theorem d_M_lay_26 : decode b_M_lay 26 = .ok (.lconst 0, 1) := by decide +kernel
theorem d_M_lay_27 : decode b_M_lay 27 = .ok (.aload_n 0, 1) := by decide +kernel
theorem d_M_lay_28 : decode b_M_lay 28 = .ok (.getfield 7, 3) := by decide +kernel
theorem d_M_lay_31 : decode b_M_lay 31 = .ok (.iload_n 1, 1) := by decide +kernel
theorem d_M_lay_32 : decode b_M_lay 32 = .ok (.iaload, 1) := by decide +kernel
theorem d_M_lay_33 : decode b_M_lay 33 = .ok (.iconst 1, 1) := by decide +kernel
theorem d_M_lay_34 : decode b_M_lay 34 = .ok (.isub, 1) := by decide +kernel
theorem d_M_lay_35 : decode b_M_lay 35 = .ok (.i2l, 1) := by decide +kernel
theorem d_M_lay_36 : decode b_M_lay 36 = .ok (.invokestatic 100, 3) := by decide +kernel
theorem d_M_lay_39 : decode b_M_lay 39 = .ok (.ifCond .ne 9, 3) := by decide +kernel
theorem d_M_lay_42 : decode b_M_lay 42 = .ok (.aload_n 0, 1) := by decide +kernel
theorem d_M_lay_43 : decode b_M_lay 43 = .ok (.iconst 2, 1) := by decide +kernel
theorem d_M_lay_44 : decode b_M_lay 44 = .ok (.invokevirtual 110, 3) := by decide +kernel
theorem d_M_lay_47 : decode b_M_lay 47 = .ok (.ireturn, 1) := by decide +kernel
theorem d_M_lay_48 : decode b_M_lay 48 = .ok (.aload_n 0, 1) := by decide +kernel
theorem d_M_lay_49 : decode b_M_lay 49 = .ok (.getfield 13, 3) := by decide +kernel
theorem d_M_lay_52 : decode b_M_lay 52 = .ok (.bipush 40, 2) := by decide +kernel
theorem d_M_lay_54 : decode b_M_lay 54 = .ok (.iload_n 1, 1) := by decide +kernel
theorem d_M_lay_55 : decode b_M_lay 55 = .ok (.imul, 1) := by decide +kernel
theorem d_M_lay_56 : decode b_M_lay 56 = .ok (.iload_n 2, 1) := by decide +kernel
theorem d_M_lay_57 : decode b_M_lay 57 = .ok (.iadd, 1) := by decide +kernel
theorem d_M_lay_58 : decode b_M_lay 58 = .ok (.iaload, 1) := by decide +kernel
theorem d_M_lay_59 : decode b_M_lay 59 = .ok (.istore 4, 2) := by decide +kernel
theorem d_M_lay_61 : decode b_M_lay 61 = .ok (.aload_n 0, 1) := by decide +kernel
theorem d_M_lay_62 : decode b_M_lay 62 = .ok (.getfield 13, 3) := by decide +kernel
theorem d_M_lay_65 : decode b_M_lay 65 = .ok (.bipush 40, 2) := by decide +kernel
theorem d_M_lay_67 : decode b_M_lay 67 = .ok (.iload_n 1, 1) := by decide +kernel
theorem d_M_lay_68 : decode b_M_lay 68 = .ok (.imul, 1) := by decide +kernel
theorem d_M_lay_69 : decode b_M_lay 69 = .ok (.iload_n 2, 1) := by decide +kernel
theorem d_M_lay_70 : decode b_M_lay 70 = .ok (.iadd, 1) := by decide +kernel
theorem d_M_lay_71 : decode b_M_lay 71 = .ok (.iload_n 3, 1) := by decide +kernel
theorem d_M_lay_72 : decode b_M_lay 72 = .ok (.iastore, 1) := by decide +kernel
theorem d_M_lay_73 : decode b_M_lay 73 = .ok (.aload_n 0, 1) := by decide +kernel
theorem d_M_lay_74 : decode b_M_lay 74 = .ok (.iload 4, 2) := by decide +kernel
theorem d_M_lay_76 : decode b_M_lay 76 = .ok (.invokevirtual 114, 3) := by decide +kernel
theorem d_M_lay_79 : decode b_M_lay 79 = .ok (.ireturn, 1) := by decide +kernel
theorem d_M_at_0 : decode b_M_at 0 = .ok (.iload_n 1, 1) := by decide +kernel
theorem d_M_at_1 : decode b_M_at 1 = .ok (.invokestatic 106, 3) := by decide +kernel
theorem d_M_at_4 : decode b_M_at 4 = .ok (.ifCond .ne 5, 3) := by decide +kernel
theorem d_M_at_7 : decode b_M_at 7 = .ok (.iconst (-1), 1) := by decide +kernel
theorem d_M_at_8 : decode b_M_at 8 = .ok (.ireturn, 1) := by decide +kernel
theorem d_M_at_9 : decode b_M_at 9 = .ok (.aload_n 0, 1) := by decide +kernel
theorem d_M_at_10 : decode b_M_at 10 = .ok (.getfield 7, 3) := by decide +kernel
theorem d_M_at_13 : decode b_M_at 13 = .ok (.iload_n 1, 1) := by decide +kernel
theorem d_M_at_14 : decode b_M_at 14 = .ok (.iaload, 1) := by decide +kernel
theorem d_M_at_15 : decode b_M_at 15 = .ok (.ifCond .ge 9, 3) := by decide +kernel
theorem d_M_at_18 : decode b_M_at 18 = .ok (.aload_n 0, 1) := by decide +kernel
theorem d_M_at_19 : decode b_M_at 19 = .ok (.iconst 1, 1) := by decide +kernel
theorem d_M_at_20 : decode b_M_at 20 = .ok (.invokevirtual 110, 3) := by decide +kernel
theorem d_M_at_23 : decode b_M_at 23 = .ok (.ireturn, 1) := by decide +kernel
theorem d_M_at_24 : decode b_M_at 24 = .ok (.iload_n 2, 1) := by decide +kernel
theorem d_M_at_25 : decode b_M_at 25 = .ok (.i2l, 1) := by decide +kernel
theorem d_M_at_26 : decode b_M_at 26 = .ok (.lconst 0, 1) := by decide +kernel
theorem d_M_at_27 : decode b_M_at 27 = .ok (.aload_n 0, 1) := by decide +kernel
theorem d_M_at_28 : decode b_M_at 28 = .ok (.getfield 7, 3) := by decide +kernel
theorem d_M_at_31 : decode b_M_at 31 = .ok (.iload_n 1, 1) := by decide +kernel
theorem d_M_at_32 : decode b_M_at 32 = .ok (.iaload, 1) := by decide +kernel
theorem d_M_at_33 : decode b_M_at 33 = .ok (.iconst 1, 1) := by decide +kernel
theorem d_M_at_34 : decode b_M_at 34 = .ok (.isub, 1) := by decide +kernel
theorem d_M_at_35 : decode b_M_at 35 = .ok (.i2l, 1) := by decide +kernel
theorem d_M_at_36 : decode b_M_at 36 = .ok (.invokestatic 100, 3) := by decide +kernel
theorem d_M_at_39 : decode b_M_at 39 = .ok (.ifCond .eq 21, 3) := by decide +kernel
theorem d_M_at_42 : decode b_M_at 42 = .ok (.aload_n 0, 1) := by decide +kernel
theorem d_M_at_43 : decode b_M_at 43 = .ok (.aload_n 0, 1) := by decide +kernel
theorem d_M_at_44 : decode b_M_at 44 = .ok (.getfield 13, 3) := by decide +kernel
theorem d_M_at_47 : decode b_M_at 47 = .ok (.bipush 40, 2) := by decide +kernel
theorem d_M_at_49 : decode b_M_at 49 = .ok (.iload_n 1, 1) := by decide +kernel
theorem d_M_at_50 : decode b_M_at 50 = .ok (.imul, 1) := by decide +kernel
theorem d_M_at_51 : decode b_M_at 51 = .ok (.iload_n 2, 1) := by decide +kernel
theorem d_M_at_52 : decode b_M_at 52 = .ok (.iadd, 1) := by decide +kernel
theorem d_M_at_53 : decode b_M_at 53 = .ok (.iaload, 1) := by decide +kernel
theorem d_M_at_54 : decode b_M_at 54 = .ok (.invokevirtual 114, 3) := by decide +kernel
theorem d_M_at_57 : decode b_M_at 57 = .ok (.goto 8, 3) := by decide +kernel
theorem d_M_at_60 : decode b_M_at 60 = .ok (.aload_n 0, 1) := by decide +kernel
theorem d_M_at_61 : decode b_M_at 61 = .ok (.iconst 2, 1) := by decide +kernel
theorem d_M_at_62 : decode b_M_at 62 = .ok (.invokevirtual 110, 3) := by decide +kernel
theorem d_M_at_65 : decode b_M_at 65 = .ok (.ireturn, 1) := by decide +kernel
theorem d_M_tear_0 : decode b_M_tear 0 = .ok (.iload_n 1, 1) := by decide +kernel
theorem d_M_tear_1 : decode b_M_tear 1 = .ok (.invokestatic 106, 3) := by decide +kernel
theorem d_M_tear_4 : decode b_M_tear 4 = .ok (.ifCond .ne 5, 3) := by decide +kernel
theorem d_M_tear_7 : decode b_M_tear 7 = .ok (.iconst (-1), 1) := by decide +kernel
theorem d_M_tear_8 : decode b_M_tear 8 = .ok (.ireturn, 1) := by decide +kernel
theorem d_M_tear_9 : decode b_M_tear 9 = .ok (.aload_n 0, 1) := by decide +kernel
theorem d_M_tear_10 : decode b_M_tear 10 = .ok (.getfield 7, 3) := by decide +kernel
theorem d_M_tear_13 : decode b_M_tear 13 = .ok (.iload_n 1, 1) := by decide +kernel
theorem d_M_tear_14 : decode b_M_tear 14 = .ok (.iaload, 1) := by decide +kernel
theorem d_M_tear_15 : decode b_M_tear 15 = .ok (.ifCond .ge 9, 3) := by decide +kernel
theorem d_M_tear_18 : decode b_M_tear 18 = .ok (.aload_n 0, 1) := by decide +kernel
theorem d_M_tear_19 : decode b_M_tear 19 = .ok (.iconst 1, 1) := by decide +kernel
theorem d_M_tear_20 : decode b_M_tear 20 = .ok (.invokevirtual 110, 3) := by decide +kernel
theorem d_M_tear_23 : decode b_M_tear 23 = .ok (.ireturn, 1) := by decide +kernel
theorem d_M_tear_24 : decode b_M_tear 24 = .ok (.aload_n 0, 1) := by decide +kernel
theorem d_M_tear_25 : decode b_M_tear 25 = .ok (.getfield 7, 3) := by decide +kernel
theorem d_M_tear_28 : decode b_M_tear 28 = .ok (.iload_n 1, 1) := by decide +kernel
theorem d_M_tear_29 : decode b_M_tear 29 = .ok (.iconst (-1), 1) := by decide +kernel
theorem d_M_tear_30 : decode b_M_tear 30 = .ok (.iastore, 1) := by decide +kernel
theorem d_M_tear_31 : decode b_M_tear 31 = .ok (.iconst 1, 1) := by decide +kernel
theorem d_M_tear_32 : decode b_M_tear 32 = .ok (.ireturn, 1) := by decide +kernel
theorem d_M_copy_0 : decode b_M_copy 0 = .ok (.iload_n 1, 1) := by decide +kernel
theorem d_M_copy_1 : decode b_M_copy 1 = .ok (.invokestatic 106, 3) := by decide +kernel
theorem d_M_copy_4 : decode b_M_copy 4 = .ok (.ifCond .eq 10, 3) := by decide +kernel
theorem d_M_copy_7 : decode b_M_copy 7 = .ok (.iload_n 3, 1) := by decide +kernel
theorem d_M_copy_8 : decode b_M_copy 8 = .ok (.invokestatic 106, 3) := by decide +kernel
theorem d_M_copy_11 : decode b_M_copy 11 = .ok (.ifCond .ne 5, 3) := by decide +kernel
theorem d_M_copy_14 : decode b_M_copy 14 = .ok (.iconst (-1), 1) := by decide +kernel
theorem d_M_copy_15 : decode b_M_copy 15 = .ok (.ireturn, 1) := by decide +kernel
theorem d_M_copy_16 : decode b_M_copy 16 = .ok (.iload 5, 2) := by decide +kernel
theorem d_M_copy_18 : decode b_M_copy 18 = .ok (.ifCond .ge 9, 3) := by decide +kernel
theorem d_M_copy_21 : decode b_M_copy 21 = .ok (.aload_n 0, 1) := by decide +kernel
theorem d_M_copy_22 : decode b_M_copy 22 = .ok (.iconst 5, 1) := by decide +kernel
theorem d_M_copy_23 : decode b_M_copy 23 = .ok (.invokevirtual 110, 3) := by decide +kernel
theorem d_M_copy_26 : decode b_M_copy 26 = .ok (.ireturn, 1) := by decide +kernel
theorem d_M_copy_27 : decode b_M_copy 27 = .ok (.aload_n 0, 1) := by decide +kernel
theorem d_M_copy_28 : decode b_M_copy 28 = .ok (.getfield 7, 3) := by decide +kernel
theorem d_M_copy_31 : decode b_M_copy 31 = .ok (.iload_n 1, 1) := by decide +kernel
theorem d_M_copy_32 : decode b_M_copy 32 = .ok (.iaload, 1) := by decide +kernel
theorem d_M_copy_33 : decode b_M_copy 33 = .ok (.ifCond .lt 12, 3) := by decide +kernel
theorem d_M_copy_36 : decode b_M_copy 36 = .ok (.aload_n 0, 1) := by decide +kernel
theorem d_M_copy_37 : decode b_M_copy 37 = .ok (.getfield 7, 3) := by decide +kernel
theorem d_M_copy_40 : decode b_M_copy 40 = .ok (.iload_n 3, 1) := by decide +kernel
theorem d_M_copy_41 : decode b_M_copy 41 = .ok (.iaload, 1) := by decide +kernel
theorem d_M_copy_42 : decode b_M_copy 42 = .ok (.ifCond .ge 9, 3) := by decide +kernel
theorem d_M_copy_45 : decode b_M_copy 45 = .ok (.aload_n 0, 1) := by decide +kernel
theorem d_M_copy_46 : decode b_M_copy 46 = .ok (.iconst 1, 1) := by decide +kernel
theorem d_M_copy_47 : decode b_M_copy 47 = .ok (.invokevirtual 110, 3) := by decide +kernel
theorem d_M_copy_50 : decode b_M_copy 50 = .ok (.ireturn, 1) := by decide +kernel
theorem d_M_copy_51 : decode b_M_copy 51 = .ok (.iload_n 2, 1) := by decide +kernel
theorem d_M_copy_52 : decode b_M_copy 52 = .ok (.ifCond .lt 43, 3) := by decide +kernel
theorem d_M_copy_55 : decode b_M_copy 55 = .ok (.iload 4, 2) := by decide +kernel
theorem d_M_copy_57 : decode b_M_copy 57 = .ok (.ifCond .lt 38, 3) := by decide +kernel
theorem d_M_copy_60 : decode b_M_copy 60 = .ok (.iload_n 2, 1) := by decide +kernel
theorem d_M_copy_61 : decode b_M_copy 61 = .ok (.i2l, 1) := by decide +kernel
theorem d_M_copy_62 : decode b_M_copy 62 = .ok (.iload 5, 2) := by decide +kernel
theorem d_M_copy_64 : decode b_M_copy 64 = .ok (.i2l, 1) := by decide +kernel
theorem d_M_copy_65 : decode b_M_copy 65 = .ok (.ladd, 1) := by decide +kernel
theorem d_M_copy_66 : decode b_M_copy 66 = .ok (.aload_n 0, 1) := by decide +kernel
theorem d_M_copy_67 : decode b_M_copy 67 = .ok (.getfield 7, 3) := by decide +kernel
theorem d_M_copy_70 : decode b_M_copy 70 = .ok (.iload_n 1, 1) := by decide +kernel
theorem d_M_copy_71 : decode b_M_copy 71 = .ok (.iaload, 1) := by decide +kernel
theorem d_M_copy_72 : decode b_M_copy 72 = .ok (.i2l, 1) := by decide +kernel
theorem d_M_copy_73 : decode b_M_copy 73 = .ok (.lcmp, 1) := by decide +kernel
theorem d_M_copy_74 : decode b_M_copy 74 = .ok (.ifCond .gt 21, 3) := by decide +kernel
theorem d_M_copy_77 : decode b_M_copy 77 = .ok (.iload 4, 2) := by decide +kernel
theorem d_M_copy_79 : decode b_M_copy 79 = .ok (.i2l, 1) := by decide +kernel
theorem d_M_copy_80 : decode b_M_copy 80 = .ok (.iload 5, 2) := by decide +kernel
theorem d_M_copy_82 : decode b_M_copy 82 = .ok (.i2l, 1) := by decide +kernel
theorem d_M_copy_83 : decode b_M_copy 83 = .ok (.ladd, 1) := by decide +kernel
theorem d_M_copy_84 : decode b_M_copy 84 = .ok (.aload_n 0, 1) := by decide +kernel
theorem d_M_copy_85 : decode b_M_copy 85 = .ok (.getfield 7, 3) := by decide +kernel
theorem d_M_copy_88 : decode b_M_copy 88 = .ok (.iload_n 3, 1) := by decide +kernel
theorem d_M_copy_89 : decode b_M_copy 89 = .ok (.iaload, 1) := by decide +kernel
theorem d_M_copy_90 : decode b_M_copy 90 = .ok (.i2l, 1) := by decide +kernel
theorem d_M_copy_91 : decode b_M_copy 91 = .ok (.lcmp, 1) := by decide +kernel
theorem d_M_copy_92 : decode b_M_copy 92 = .ok (.ifCond .le 9, 3) := by decide +kernel
theorem d_M_copy_95 : decode b_M_copy 95 = .ok (.aload_n 0, 1) := by decide +kernel
theorem d_M_copy_96 : decode b_M_copy 96 = .ok (.iconst 2, 1) := by decide +kernel
theorem d_M_copy_97 : decode b_M_copy 97 = .ok (.invokevirtual 110, 3) := by decide +kernel
theorem d_M_copy_100 : decode b_M_copy 100 = .ok (.ireturn, 1) := by decide +kernel
theorem d_M_copy_101 : decode b_M_copy 101 = .ok (.iconst 0, 1) := by decide +kernel
theorem d_M_copy_102 : decode b_M_copy 102 = .ok (.istore 6, 2) := by decide +kernel
theorem d_M_copy_104 : decode b_M_copy 104 = .ok (.iload 6, 2) := by decide +kernel
theorem d_M_copy_106 : decode b_M_copy 106 = .ok (.iload 5, 2) := by decide +kernel
theorem d_M_copy_108 : decode b_M_copy 108 = .ok (.if_icmp .ge 58, 3) := by decide +kernel
theorem d_M_copy_111 : decode b_M_copy 111 = .ok (.iload 4, 2) := by decide +kernel
theorem d_M_copy_113 : decode b_M_copy 113 = .ok (.iload_n 2, 1) := by decide +kernel
theorem d_M_copy_114 : decode b_M_copy 114 = .ok (.if_icmp .le 13, 3) := by decide +kernel
theorem d_M_copy_117 : decode b_M_copy 117 = .ok (.iload 5, 2) := by decide +kernel
theorem d_M_copy_119 : decode b_M_copy 119 = .ok (.iconst 1, 1) := by decide +kernel
theorem d_M_copy_120 : decode b_M_copy 120 = .ok (.isub, 1) := by decide +kernel
theorem d_M_copy_121 : decode b_M_copy 121 = .ok (.iload 6, 2) := by decide +kernel
theorem d_M_copy_123 : decode b_M_copy 123 = .ok (.isub, 1) := by decide +kernel
theorem d_M_copy_124 : decode b_M_copy 124 = .ok (.goto 5, 3) := by decide +kernel
theorem d_M_copy_127 : decode b_M_copy 127 = .ok (.iload 6, 2) := by decide +kernel
theorem d_M_copy_129 : decode b_M_copy 129 = .ok (.istore 7, 2) := by decide +kernel
theorem d_M_copy_131 : decode b_M_copy 131 = .ok (.aload_n 0, 1) := by decide +kernel
theorem d_M_copy_132 : decode b_M_copy 132 = .ok (.getfield 13, 3) := by decide +kernel
theorem d_M_copy_135 : decode b_M_copy 135 = .ok (.bipush 40, 2) := by decide +kernel
theorem d_M_copy_137 : decode b_M_copy 137 = .ok (.iload_n 3, 1) := by decide +kernel
theorem d_M_copy_138 : decode b_M_copy 138 = .ok (.imul, 1) := by decide +kernel
theorem d_M_copy_139 : decode b_M_copy 139 = .ok (.iload 4, 2) := by decide +kernel
theorem d_M_copy_141 : decode b_M_copy 141 = .ok (.iadd, 1) := by decide +kernel
theorem d_M_copy_142 : decode b_M_copy 142 = .ok (.iload 7, 2) := by decide +kernel
theorem d_M_copy_144 : decode b_M_copy 144 = .ok (.iadd, 1) := by decide +kernel
theorem d_M_copy_145 : decode b_M_copy 145 = .ok (.aload_n 0, 1) := by decide +kernel
theorem d_M_copy_146 : decode b_M_copy 146 = .ok (.getfield 13, 3) := by decide +kernel
theorem d_M_copy_149 : decode b_M_copy 149 = .ok (.bipush 40, 2) := by decide +kernel
theorem d_M_copy_151 : decode b_M_copy 151 = .ok (.iload_n 1, 1) := by decide +kernel
theorem d_M_copy_152 : decode b_M_copy 152 = .ok (.imul, 1) := by decide +kernel
theorem d_M_copy_153 : decode b_M_copy 153 = .ok (.iload_n 2, 1) := by decide +kernel
theorem d_M_copy_154 : decode b_M_copy 154 = .ok (.iadd, 1) := by decide +kernel
theorem d_M_copy_155 : decode b_M_copy 155 = .ok (.iload 7, 2) := by decide +kernel
theorem d_M_copy_157 : decode b_M_copy 157 = .ok (.iadd, 1) := by decide +kernel
theorem d_M_copy_158 : decode b_M_copy 158 = .ok (.iaload, 1) := by decide +kernel
theorem d_M_copy_159 : decode b_M_copy 159 = .ok (.iastore, 1) := by decide +kernel
theorem d_M_copy_160 : decode b_M_copy 160 = .ok (.iinc 6 1, 3) := by decide +kernel
theorem d_M_copy_163 : decode b_M_copy 163 = .ok (.goto (-59), 3) := by decide +kernel
theorem d_M_copy_166 : decode b_M_copy 166 = .ok (.iconst 1, 1) := by decide +kernel
theorem d_M_copy_167 : decode b_M_copy 167 = .ok (.ireturn, 1) := by decide +kernel
theorem d_M_mean_0 : decode b_M_mean 0 = .ok (.iload_n 1, 1) := by decide +kernel
theorem d_M_mean_1 : decode b_M_mean 1 = .ok (.invokestatic 106, 3) := by decide +kernel
theorem d_M_mean_4 : decode b_M_mean 4 = .ok (.ifCond .ne 5, 3) := by decide +kernel
theorem d_M_mean_7 : decode b_M_mean 7 = .ok (.iconst (-1), 1) := by decide +kernel
theorem d_M_mean_8 : decode b_M_mean 8 = .ok (.ireturn, 1) := by decide +kernel
theorem d_M_mean_9 : decode b_M_mean 9 = .ok (.aload_n 0, 1) := by decide +kernel
theorem d_M_mean_10 : decode b_M_mean 10 = .ok (.getfield 7, 3) := by decide +kernel
theorem d_M_mean_13 : decode b_M_mean 13 = .ok (.iload_n 1, 1) := by decide +kernel
theorem d_M_mean_14 : decode b_M_mean 14 = .ok (.iaload, 1) := by decide +kernel
theorem d_M_mean_15 : decode b_M_mean 15 = .ok (.ifCond .ge 9, 3) := by decide +kernel
theorem d_M_mean_18 : decode b_M_mean 18 = .ok (.aload_n 0, 1) := by decide +kernel
theorem d_M_mean_19 : decode b_M_mean 19 = .ok (.iconst 1, 1) := by decide +kernel
theorem d_M_mean_20 : decode b_M_mean 20 = .ok (.invokevirtual 110, 3) := by decide +kernel
theorem d_M_mean_23 : decode b_M_mean 23 = .ok (.ireturn, 1) := by decide +kernel
theorem d_M_mean_24 : decode b_M_mean 24 = .ok (.aload_n 0, 1) := by decide +kernel
theorem d_M_mean_25 : decode b_M_mean 25 = .ok (.getfield 7, 3) := by decide +kernel
theorem d_M_mean_28 : decode b_M_mean 28 = .ok (.iload_n 1, 1) := by decide +kernel
theorem d_M_mean_29 : decode b_M_mean 29 = .ok (.iaload, 1) := by decide +kernel
theorem d_M_mean_30 : decode b_M_mean 30 = .ok (.ifCond .ne 9, 3) := by decide +kernel
theorem d_M_mean_33 : decode b_M_mean 33 = .ok (.aload_n 0, 1) := by decide +kernel
theorem d_M_mean_34 : decode b_M_mean 34 = .ok (.iconst 4, 1) := by decide +kernel
theorem d_M_mean_35 : decode b_M_mean 35 = .ok (.invokevirtual 110, 3) := by decide +kernel
theorem d_M_mean_38 : decode b_M_mean 38 = .ok (.ireturn, 1) := by decide +kernel
theorem d_M_mean_39 : decode b_M_mean 39 = .ok (.lconst 0, 1) := by decide +kernel
theorem d_M_mean_40 : decode b_M_mean 40 = .ok (.lstore_n 2, 1) := by decide +kernel
theorem d_M_mean_41 : decode b_M_mean 41 = .ok (.iconst 0, 1) := by decide +kernel
theorem d_M_mean_42 : decode b_M_mean 42 = .ok (.istore 4, 2) := by decide +kernel
theorem d_M_mean_44 : decode b_M_mean 44 = .ok (.iload 4, 2) := by decide +kernel
theorem d_M_mean_46 : decode b_M_mean 46 = .ok (.aload_n 0, 1) := by decide +kernel
theorem d_M_mean_47 : decode b_M_mean 47 = .ok (.getfield 7, 3) := by decide +kernel
theorem d_M_mean_50 : decode b_M_mean 50 = .ok (.iload_n 1, 1) := by decide +kernel
theorem d_M_mean_51 : decode b_M_mean 51 = .ok (.iaload, 1) := by decide +kernel
theorem d_M_mean_52 : decode b_M_mean 52 = .ok (.if_icmp .ge 25, 3) := by decide +kernel
theorem d_M_mean_55 : decode b_M_mean 55 = .ok (.lload_n 2, 1) := by decide +kernel
theorem d_M_mean_56 : decode b_M_mean 56 = .ok (.aload_n 0, 1) := by decide +kernel
theorem d_M_mean_57 : decode b_M_mean 57 = .ok (.getfield 13, 3) := by decide +kernel
theorem d_M_mean_60 : decode b_M_mean 60 = .ok (.bipush 40, 2) := by decide +kernel
theorem d_M_mean_62 : decode b_M_mean 62 = .ok (.iload_n 1, 1) := by decide +kernel
theorem d_M_mean_63 : decode b_M_mean 63 = .ok (.imul, 1) := by decide +kernel
theorem d_M_mean_64 : decode b_M_mean 64 = .ok (.iload 4, 2) := by decide +kernel
theorem d_M_mean_66 : decode b_M_mean 66 = .ok (.iadd, 1) := by decide +kernel
theorem d_M_mean_67 : decode b_M_mean 67 = .ok (.iaload, 1) := by decide +kernel
theorem d_M_mean_68 : decode b_M_mean 68 = .ok (.i2l, 1) := by decide +kernel
theorem d_M_mean_69 : decode b_M_mean 69 = .ok (.ladd, 1) := by decide +kernel
theorem d_M_mean_70 : decode b_M_mean 70 = .ok (.lstore_n 2, 1) := by decide +kernel
theorem d_M_mean_71 : decode b_M_mean 71 = .ok (.iinc 4 1, 3) := by decide +kernel
theorem d_M_mean_74 : decode b_M_mean 74 = .ok (.goto (-30), 3) := by decide +kernel
theorem d_M_mean_77 : decode b_M_mean 77 = .ok (.aload_n 0, 1) := by decide +kernel
theorem d_M_mean_78 : decode b_M_mean 78 = .ok (.lload_n 2, 1) := by decide +kernel
theorem d_M_mean_79 : decode b_M_mean 79 = .ok (.aload_n 0, 1) := by decide +kernel
theorem d_M_mean_80 : decode b_M_mean 80 = .ok (.getfield 7, 3) := by decide +kernel
theorem d_M_mean_83 : decode b_M_mean 83 = .ok (.iload_n 1, 1) := by decide +kernel
theorem d_M_mean_84 : decode b_M_mean 84 = .ok (.iaload, 1) := by decide +kernel
theorem d_M_mean_85 : decode b_M_mean 85 = .ok (.i2l, 1) := by decide +kernel
theorem d_M_mean_86 : decode b_M_mean 86 = .ok (.ldiv, 1) := by decide +kernel
theorem d_M_mean_87 : decode b_M_mean 87 = .ok (.l2i, 1) := by decide +kernel
theorem d_M_mean_88 : decode b_M_mean 88 = .ok (.invokevirtual 114, 3) := by decide +kernel
theorem d_M_mean_91 : decode b_M_mean 91 = .ok (.ireturn, 1) := by decide +kernel
theorem d_M_text_0 : decode b_M_text 0 = .ok (.iload_n 1, 1) := by decide +kernel

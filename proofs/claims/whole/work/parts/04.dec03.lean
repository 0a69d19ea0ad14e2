theorem d_M_sees_42 : decode b_M_sees 42 = .ok (.ifCond .lt 49, 3) := by decide +kernel
theorem d_M_sees_45 : decode b_M_sees 45 = .ok (.aload_n 0, 1) := by decide +kernel
theorem d_M_sees_46 : decode b_M_sees 46 = .ok (.getfield 48, 3) := by decide +kernel
theorem d_M_sees_49 : decode b_M_sees 49 = .ok (.iload 6, 2) := by decide +kernel
theorem d_M_sees_51 : decode b_M_sees 51 = .ok (.aload_n 0, 1) := by decide +kernel
theorem d_M_sees_52 : decode b_M_sees 52 = .ok (.getfield 13, 3) := by decide +kernel
theorem d_M_sees_55 : decode b_M_sees 55 = .ok (.bipush 40, 2) := by decide +kernel
theorem d_M_sees_57 : decode b_M_sees 57 = .ok (.iload_n 1, 1) := by decide +kernel
theorem d_M_sees_58 : decode b_M_sees 58 = .ok (.imul, 1) := by decide +kernel
theorem d_M_sees_59 : decode b_M_sees 59 = .ok (.iload 7, 2) := by decide +kernel
theorem d_M_sees_61 : decode b_M_sees 61 = .ok (.iadd, 1) := by decide +kernel
theorem d_M_sees_62 : decode b_M_sees 62 = .ok (.iaload, 1) := by decide +kernel
theorem d_M_sees_63 : decode b_M_sees 63 = .ok (.invokestatic 134, 3) := by decide +kernel
theorem d_M_sees_66 : decode b_M_sees 66 = .ok (.istore 6, 2) := by decide +kernel
theorem d_M_sees_68 : decode b_M_sees 68 = .ok (.iload 5, 2) := by decide +kernel
theorem d_M_sees_70 : decode b_M_sees 70 = .ok (.ifCond .eq 12, 3) := by decide +kernel
theorem d_M_sees_73 : decode b_M_sees 73 = .ok (.iload 6, 2) := by decide +kernel
theorem d_M_sees_75 : decode b_M_sees 75 = .ok (.ifCond .le 7, 3) := by decide +kernel
theorem d_M_sees_78 : decode b_M_sees 78 = .ok (.iconst 1, 1) := by decide +kernel
theorem d_M_sees_79 : decode b_M_sees 79 = .ok (.goto 4, 3) := by decide +kernel
theorem d_M_sees_82 : decode b_M_sees 82 = .ok (.iconst 0, 1) := by decide +kernel
theorem d_M_sees_83 : decode b_M_sees 83 = .ok (.istore 5, 2) := by decide +kernel
theorem d_M_sees_85 : decode b_M_sees 85 = .ok (.iinc 7 (-1), 3) := by decide +kernel
theorem d_M_sees_88 : decode b_M_sees 88 = .ok (.goto (-48), 3) := by decide +kernel
theorem d_M_sees_91 : decode b_M_sees 91 = .ok (.iload_n 3, 1) := by decide +kernel
theorem d_M_sees_92 : decode b_M_sees 92 = .ok (.iload 5, 2) := by decide +kernel
theorem d_M_sees_94 : decode b_M_sees 94 = .ok (.ifCond .eq 7, 3) := by decide +kernel
theorem d_M_sees_97 : decode b_M_sees 97 = .ok (.iconst 1, 1) := by decide +kernel
theorem d_M_sees_98 : decode b_M_sees 98 = .ok (.goto 4, 3) := by decide +kernel
theorem d_M_sees_101 : decode b_M_sees 101 = .ok (.iconst 0, 1) := by decide +kernel
theorem d_M_sees_102 : decode b_M_sees 102 = .ok (.iadd, 1) := by decide +kernel
theorem d_M_sees_103 : decode b_M_sees 103 = .ok (.istore_n 3, 1) := by decide +kernel
theorem d_M_sees_104 : decode b_M_sees 104 = .ok (.iinc 4 1, 3) := by decide +kernel
theorem d_M_sees_107 : decode b_M_sees 107 = .ok (.goto (-90), 3) := by decide +kernel
theorem d_M_sees_110 : decode b_M_sees 110 = .ok (.iload_n 3, 1) := by decide +kernel
theorem d_M_sees_111 : decode b_M_sees 111 = .ok (.ireturn, 1) := by decide +kernel
theorem d_M_noCodes_0 : decode b_M_noCodes 0 = .ok (.iload_n 1, 1) := by decide +kernel
theorem d_M_noCodes_1 : decode b_M_noCodes 1 = .ok (.invokestatic 106, 3) := by decide +kernel
theorem d_M_noCodes_4 : decode b_M_noCodes 4 = .ok (.ifCond .ne 5, 3) := by decide +kernel
theorem d_M_noCodes_7 : decode b_M_noCodes 7 = .ok (.iconst (-1), 1) := by decide +kernel
theorem d_M_noCodes_8 : decode b_M_noCodes 8 = .ok (.ireturn, 1) := by decide +kernel
theorem d_M_noCodes_9 : decode b_M_noCodes 9 = .ok (.aload_n 0, 1) := by decide +kernel
theorem d_M_noCodes_10 : decode b_M_noCodes 10 = .ok (.getfield 7, 3) := by decide +kernel
theorem d_M_noCodes_13 : decode b_M_noCodes 13 = .ok (.iload_n 1, 1) := by decide +kernel
theorem d_M_noCodes_14 : decode b_M_noCodes 14 = .ok (.iaload, 1) := by decide +kernel
theorem d_M_noCodes_15 : decode b_M_noCodes 15 = .ok (.ifCond .ge 9, 3) := by decide +kernel
theorem d_M_noCodes_18 : decode b_M_noCodes 18 = .ok (.aload_n 0, 1) := by decide +kernel
theorem d_M_noCodes_19 : decode b_M_noCodes 19 = .ok (.iconst 1, 1) := by decide +kernel
theorem d_M_noCodes_20 : decode b_M_noCodes 20 = .ok (.invokevirtual 110, 3) := by decide +kernel
theorem d_M_noCodes_23 : decode b_M_noCodes 23 = .ok (.ireturn, 1) := by decide +kernel
theorem d_M_noCodes_24 : decode b_M_noCodes 24 = .ok (.aload_n 0, 1) := by decide +kernel
theorem d_M_noCodes_25 : decode b_M_noCodes 25 = .ok (.getfield 7, 3) := by decide +kernel
theorem d_M_noCodes_28 : decode b_M_noCodes 28 = .ok (.iload_n 1, 1) := by decide +kernel
theorem d_M_noCodes_29 : decode b_M_noCodes 29 = .ok (.iaload, 1) := by decide +kernel
theorem d_M_noCodes_30 : decode b_M_noCodes 30 = .ok (.iload_n 2, 1) := by decide +kernel
theorem d_M_noCodes_31 : decode b_M_noCodes 31 = .ok (.if_icmp .le 9, 3) := by decide +kernel
theorem d_M_noCodes_34 : decode b_M_noCodes 34 = .ok (.aload_n 0, 1) := by decide +kernel
theorem d_M_noCodes_35 : decode b_M_noCodes 35 = .ok (.iconst 5, 1) := by decide +kernel
theorem d_M_noCodes_36 : decode b_M_noCodes 36 = .ok (.invokevirtual 110, 3) := by decide +kernel
theorem d_M_noCodes_39 : decode b_M_noCodes 39 = .ok (.ireturn, 1) := by decide +kernel
theorem d_M_noCodes_40 : decode b_M_noCodes 40 = .ok (.iconst 1, 1) := by decide +kernel
theorem d_M_noCodes_41 : decode b_M_noCodes 41 = .ok (.istore_n 3, 1) := by decide +kernel
theorem d_M_noCodes_42 : decode b_M_noCodes 42 = .ok (.iconst 0, 1) := by decide +kernel
theorem d_M_noCodes_43 : decode b_M_noCodes 43 = .ok (.istore 4, 2) := by decide +kernel
theorem d_M_noCodes_45 : decode b_M_noCodes 45 = .ok (.iload 4, 2) := by decide +kernel
theorem d_M_noCodes_47 : decode b_M_noCodes 47 = .ok (.aload_n 0, 1) := by decide +kernel
theorem d_M_noCodes_48 : decode b_M_noCodes 48 = .ok (.getfield 7, 3) := by decide +kernel
theorem d_M_noCodes_51 : decode b_M_noCodes 51 = .ok (.iload_n 1, 1) := by decide +kernel
theorem d_M_noCodes_52 : decode b_M_noCodes 52 = .ok (.iaload, 1) := by decide +kernel
theorem d_M_noCodes_53 : decode b_M_noCodes 53 = .ok (.if_icmp .ge 37, 3) := by decide +kernel
theorem d_M_noCodes_56 : decode b_M_noCodes 56 = .ok (.iload_n 3, 1) := by decide +kernel
theorem d_M_noCodes_57 : decode b_M_noCodes 57 = .ok (.ifCond .eq 25, 3) := by decide +kernel
theorem d_M_noCodes_60 : decode b_M_noCodes 60 = .ok (.aload_n 0, 1) := by decide +kernel
theorem d_M_noCodes_61 : decode b_M_noCodes 61 = .ok (.getfield 13, 3) := by decide +kernel
theorem d_M_noCodes_64 : decode b_M_noCodes 64 = .ok (.bipush 40, 2) := by decide +kernel
theorem d_M_noCodes_66 : decode b_M_noCodes 66 = .ok (.iload_n 1, 1) := by decide +kernel
theorem d_M_noCodes_67 : decode b_M_noCodes 67 = .ok (.imul, 1) := by decide +kernel
theorem d_M_noCodes_68 : decode b_M_noCodes 68 = .ok (.iload 4, 2) := by decide +kernel
theorem d_M_noCodes_70 : decode b_M_noCodes 70 = .ok (.iadd, 1) := by decide +kernel
theorem d_M_noCodes_71 : decode b_M_noCodes 71 = .ok (.iaload, 1) := by decide +kernel
theorem d_M_noCodes_72 : decode b_M_noCodes 72 = .ok (.invokestatic 213, 3) := by decide +kernel
theorem d_M_noCodes_75 : decode b_M_noCodes 75 = .ok (.ifCond .eq 7, 3) := by decide +kernel
theorem d_M_noCodes_78 : decode b_M_noCodes 78 = .ok (.iconst 1, 1) := by decide +kernel
theorem d_M_noCodes_79 : decode b_M_noCodes 79 = .ok (.goto 4, 3) := by decide +kernel
theorem d_M_noCodes_82 : decode b_M_noCodes 82 = .ok (.iconst 0, 1) := by decide +kernel
theorem d_M_noCodes_83 : decode b_M_noCodes 83 = .ok (.istore_n 3, 1) := by decide +kernel
theorem d_M_noCodes_84 : decode b_M_noCodes 84 = .ok (.iinc 4 1, 3) := by decide +kernel
theorem d_M_noCodes_87 : decode b_M_noCodes 87 = .ok (.goto (-42), 3) := by decide +kernel
theorem d_M_noCodes_90 : decode b_M_noCodes 90 = .ok (.iload_n 3, 1) := by decide +kernel
theorem d_M_noCodes_91 : decode b_M_noCodes 91 = .ok (.ifCond .eq 7, 3) := by decide +kernel
theorem d_M_noCodes_94 : decode b_M_noCodes 94 = .ok (.iconst 0, 1) := by decide +kernel
theorem d_M_noCodes_95 : decode b_M_noCodes 95 = .ok (.goto 8, 3) := by decide +kernel
theorem d_M_noCodes_98 : decode b_M_noCodes 98 = .ok (.aload_n 0, 1) := by decide +kernel
theorem d_M_noCodes_99 : decode b_M_noCodes 99 = .ok (.iconst 3, 1) := by decide +kernel
theorem d_M_noCodes_100 : decode b_M_noCodes 100 = .ok (.invokevirtual 110, 3) := by decide +kernel
theorem d_M_noCodes_103 : decode b_M_noCodes 103 = .ok (.ireturn, 1) := by decide +kernel
theorem d_M_round_0 : decode b_M_round 0 = .ok (.iload_n 2, 1) := by decide +kernel
theorem d_M_round_1 : decode b_M_round 1 = .ok (.invokestatic 106, 3) := by decide +kernel
theorem d_M_round_4 : decode b_M_round 4 = .ok (.ifCond .ne 5, 3) := by decide +kernel
theorem d_M_round_7 : decode b_M_round 7 = .ok (.iconst (-1), 1) := by decide +kernel
theorem d_M_round_8 : decode b_M_round 8 = .ok (.ireturn, 1) := by decide +kernel
theorem d_M_round_9 : decode b_M_round 9 = .ok (.aload_n 0, 1) := by decide +kernel
theorem d_M_round_10 : decode b_M_round 10 = .ok (.iload_n 1, 1) := by decide +kernel
theorem d_M_round_11 : decode b_M_round 11 = .ok (.bipush 6, 2) := by decide +kernel
theorem d_M_round_13 : decode b_M_round 13 = .ok (.invokevirtual 262, 3) := by decide +kernel
theorem d_M_round_16 : decode b_M_round 16 = .ok (.istore_n 3, 1) := by decide +kernel
theorem d_M_round_17 : decode b_M_round 17 = .ok (.iload_n 3, 1) := by decide +kernel
theorem d_M_round_18 : decode b_M_round 18 = .ok (.ifCond .ge 5, 3) := by decide +kernel
theorem d_M_round_21 : decode b_M_round 21 = .ok (.iload_n 3, 1) := by decide +kernel
theorem d_M_round_22 : decode b_M_round 22 = .ok (.ireturn, 1) := by decide +kernel
theorem d_M_round_23 : decode b_M_round 23 = .ok (.aload_n 0, 1) := by decide +kernel
theorem d_M_round_24 : decode b_M_round 24 = .ok (.getfield 7, 3) := by decide +kernel
theorem d_M_round_27 : decode b_M_round 27 = .ok (.iload_n 1, 1) := by decide +kernel
theorem d_M_round_28 : decode b_M_round 28 = .ok (.iaload, 1) := by decide +kernel
theorem d_M_round_29 : decode b_M_round 29 = .ok (.istore 4, 2) := by decide +kernel
theorem d_M_round_31 : decode b_M_round 31 = .ok (.iconst 1, 1) := by decide +kernel
theorem d_M_round_32 : decode b_M_round 32 = .ok (.istore 5, 2) := by decide +kernel
theorem d_M_round_34 : decode b_M_round 34 = .ok (.iconst 0, 1) := by decide +kernel
theorem d_M_round_35 : decode b_M_round 35 = .ok (.istore 6, 2) := by decide +kernel
theorem d_M_round_37 : decode b_M_round 37 = .ok (.iload 6, 2) := by decide +kernel
theorem d_M_round_39 : decode b_M_round 39 = .ok (.iload 4, 2) := by decide +kernel
theorem d_M_round_41 : decode b_M_round 41 = .ok (.if_icmp .ge 16, 3) := by decide +kernel
theorem d_M_round_44 : decode b_M_round 44 = .ok (.iload 5, 2) := by decide +kernel
theorem d_M_round_46 : decode b_M_round 46 = .ok (.bipush 6, 2) := by decide +kernel
theorem d_M_round_48 : decode b_M_round 48 = .ok (.imul, 1) := by decide +kernel
theorem d_M_round_49 : decode b_M_round 49 = .ok (.istore 5, 2) := by decide +kernel
theorem d_M_round_51 : decode b_M_round 51 = .ok (.iinc 6 1, 3) := by decide +kernel
theorem d_M_round_54 : decode b_M_round 54 = .ok (.goto (-17), 3) := by decide +kernel
theorem d_M_round_57 : decode b_M_round 57 = .ok (.sipush 9999, 3) := by decide +kernel
theorem d_M_round_60 : decode b_M_round 60 = .ok (.istore 6, 2) := by decide +kernel
theorem d_M_round_62 : decode b_M_round 62 = .ok (.iconst 0, 1) := by decide +kernel
theorem d_M_round_63 : decode b_M_round 63 = .ok (.istore 7, 2) := by decide +kernel
theorem d_M_round_65 : decode b_M_round 65 = .ok (.iload 7, 2) := by decide +kernel
theorem d_M_round_67 : decode b_M_round 67 = .ok (.iload 5, 2) := by decide +kernel
theorem d_M_round_69 : decode b_M_round 69 = .ok (.if_icmp .ge 201, 3) := by decide +kernel
theorem d_M_round_72 : decode b_M_round 72 = .ok (.iload 7, 2) := by decide +kernel
theorem d_M_round_74 : decode b_M_round 74 = .ok (.istore 8, 2) := by decide +kernel
theorem d_M_round_76 : decode b_M_round 76 = .ok (.iconst 0, 1) := by decide +kernel
theorem d_M_round_77 : decode b_M_round 77 = .ok (.istore 9, 2) := by decide +kernel
theorem d_M_round_79 : decode b_M_round 79 = .ok (.iload 4, 2) := by decide +kernel
theorem d_M_round_81 : decode b_M_round 81 = .ok (.iconst 1, 1) := by decide +kernel
theorem d_M_round_82 : decode b_M_round 82 = .ok (.isub, 1) := by decide +kernel
theorem d_M_round_83 : decode b_M_round 83 = .ok (.istore 10, 2) := by decide +kernel
theorem d_M_round_85 : decode b_M_round 85 = .ok (.iload 10, 2) := by decide +kernel
theorem d_M_round_87 : decode b_M_round 87 = .ok (.ifCond .lt 42, 3) := by decide +kernel
theorem d_M_round_90 : decode b_M_round 90 = .ok (.aload_n 0, 1) := by decide +kernel
theorem d_M_round_91 : decode b_M_round 91 = .ok (.getfield 76, 3) := by decide +kernel
theorem d_M_round_94 : decode b_M_round 94 = .ok (.iload 10, 2) := by decide +kernel
theorem d_M_round_96 : decode b_M_round 96 = .ok (.iload 8, 2) := by decide +kernel
theorem d_M_round_98 : decode b_M_round 98 = .ok (.bipush 6, 2) := by decide +kernel
theorem d_M_round_100 : decode b_M_round 100 = .ok (.irem, 1) := by decide +kernel
theorem d_M_round_101 : decode b_M_round 101 = .ok (.iastore, 1) := by decide +kernel
theorem d_M_round_102 : decode b_M_round 102 = .ok (.iload 8, 2) := by decide +kernel
theorem d_M_round_104 : decode b_M_round 104 = .ok (.bipush 6, 2) := by decide +kernel
theorem d_M_round_106 : decode b_M_round 106 = .ok (.idiv, 1) := by decide +kernel
theorem d_M_round_107 : decode b_M_round 107 = .ok (.istore 8, 2) := by decide +kernel
theorem d_M_round_109 : decode b_M_round 109 = .ok (.iload 9, 2) := by decide +kernel
theorem d_M_round_111 : decode b_M_round 111 = .ok (.iconst 1, 1) := by decide +kernel
theorem d_M_round_112 : decode b_M_round 112 = .ok (.aload_n 0, 1) := by decide +kernel
theorem d_M_round_113 : decode b_M_round 113 = .ok (.getfield 76, 3) := by decide +kernel
theorem d_M_round_116 : decode b_M_round 116 = .ok (.iload 10, 2) := by decide +kernel
theorem d_M_round_118 : decode b_M_round 118 = .ok (.iaload, 1) := by decide +kernel
theorem d_M_round_119 : decode b_M_round 119 = .ok (.ishl, 1) := by decide +kernel
theorem d_M_round_120 : decode b_M_round 120 = .ok (.ior, 1) := by decide +kernel
theorem d_M_round_121 : decode b_M_round 121 = .ok (.istore 9, 2) := by decide +kernel
theorem d_M_round_123 : decode b_M_round 123 = .ok (.iinc 10 (-1), 3) := by decide +kernel
theorem d_M_round_126 : decode b_M_round 126 = .ok (.goto (-41), 3) := by decide +kernel
theorem d_M_round_129 : decode b_M_round 129 = .ok (.iload 9, 2) := by decide +kernel
theorem d_M_round_131 : decode b_M_round 131 = .ok (.iconst 1, 1) := by decide +kernel
theorem d_M_round_132 : decode b_M_round 132 = .ok (.iload 4, 2) := by decide +kernel
theorem d_M_round_134 : decode b_M_round 134 = .ok (.ishl, 1) := by decide +kernel
theorem d_M_round_135 : decode b_M_round 135 = .ok (.iconst 1, 1) := by decide +kernel
theorem d_M_round_136 : decode b_M_round 136 = .ok (.isub, 1) := by decide +kernel
theorem d_M_round_137 : decode b_M_round 137 = .ok (.if_icmp .eq 6, 3) := by decide +kernel
theorem d_M_round_140 : decode b_M_round 140 = .ok (.goto 124, 3) := by decide +kernel
theorem d_M_round_143 : decode b_M_round 143 = .ok (.iconst 0, 1) := by decide +kernel
theorem d_M_round_144 : decode b_M_round 144 = .ok (.istore 10, 2) := by decide +kernel
theorem d_M_round_146 : decode b_M_round 146 = .ok (.iconst 0, 1) := by decide +kernel
theorem d_M_round_147 : decode b_M_round 147 = .ok (.istore 11, 2) := by decide +kernel
theorem d_M_round_149 : decode b_M_round 149 = .ok (.iconst 0, 1) := by decide +kernel
theorem d_M_round_150 : decode b_M_round 150 = .ok (.istore 12, 2) := by decide +kernel
theorem d_M_round_152 : decode b_M_round 152 = .ok (.iload 12, 2) := by decide +kernel
theorem d_M_round_154 : decode b_M_round 154 = .ok (.iload 4, 2) := by decide +kernel
theorem d_M_round_156 : decode b_M_round 156 = .ok (.if_icmp .ge 56, 3) := by decide +kernel
theorem d_M_round_159 : decode b_M_round 159 = .ok (.iload 10, 2) := by decide +kernel
theorem d_M_round_161 : decode b_M_round 161 = .ok (.aload_n 0, 1) := by decide +kernel
theorem d_M_round_162 : decode b_M_round 162 = .ok (.iload 11, 2) := by decide +kernel
theorem d_M_round_164 : decode b_M_round 164 = .ok (.aload_n 0, 1) := by decide +kernel
theorem d_M_round_165 : decode b_M_round 165 = .ok (.getfield 13, 3) := by decide +kernel
theorem d_M_round_168 : decode b_M_round 168 = .ok (.bipush 40, 2) := by decide +kernel
theorem d_M_round_170 : decode b_M_round 170 = .ok (.iload_n 1, 1) := by decide +kernel
theorem d_M_round_171 : decode b_M_round 171 = .ok (.imul, 1) := by decide +kernel
theorem d_M_round_172 : decode b_M_round 172 = .ok (.aload_n 0, 1) := by decide +kernel
theorem d_M_round_173 : decode b_M_round 173 = .ok (.getfield 76, 3) := by decide +kernel
theorem d_M_round_176 : decode b_M_round 176 = .ok (.iload 12, 2) := by decide +kernel
theorem d_M_round_178 : decode b_M_round 178 = .ok (.iaload, 1) := by decide +kernel
theorem d_M_round_179 : decode b_M_round 179 = .ok (.iadd, 1) := by decide +kernel
theorem d_M_round_180 : decode b_M_round 180 = .ok (.iaload, 1) := by decide +kernel
theorem d_M_round_181 : decode b_M_round 181 = .ok (.invokevirtual 204, 3) := by decide +kernel
theorem d_M_round_184 : decode b_M_round 184 = .ok (.iadd, 1) := by decide +kernel
theorem d_M_round_185 : decode b_M_round 185 = .ok (.istore 10, 2) := by decide +kernel
theorem d_M_round_187 : decode b_M_round 187 = .ok (.aload_n 0, 1) := by decide +kernel
theorem d_M_round_188 : decode b_M_round 188 = .ok (.getfield 13, 3) := by decide +kernel
theorem d_M_round_191 : decode b_M_round 191 = .ok (.bipush 40, 2) := by decide +kernel
theorem d_M_round_193 : decode b_M_round 193 = .ok (.iload_n 1, 1) := by decide +kernel
theorem d_M_round_194 : decode b_M_round 194 = .ok (.imul, 1) := by decide +kernel
theorem d_M_round_195 : decode b_M_round 195 = .ok (.aload_n 0, 1) := by decide +kernel
theorem d_M_round_196 : decode b_M_round 196 = .ok (.getfield 76, 3) := by decide +kernel
theorem d_M_round_199 : decode b_M_round 199 = .ok (.iload 12, 2) := by decide +kernel
theorem d_M_round_201 : decode b_M_round 201 = .ok (.iaload, 1) := by decide +kernel
theorem d_M_round_202 : decode b_M_round 202 = .ok (.iadd, 1) := by decide +kernel
theorem d_M_round_203 : decode b_M_round 203 = .ok (.iaload, 1) := by decide +kernel
theorem d_M_round_204 : decode b_M_round 204 = .ok (.istore 11, 2) := by decide +kernel
theorem d_M_round_206 : decode b_M_round 206 = .ok (.iinc 12 1, 3) := by decide +kernel
theorem d_M_round_209 : decode b_M_round 209 = .ok (.goto (-57), 3) := by decide +kernel
theorem d_M_round_212 : decode b_M_round 212 = .ok (.iload 10, 2) := by decide +kernel
theorem d_M_round_214 : decode b_M_round 214 = .ok (.aload_n 0, 1) := by decide +kernel
theorem d_M_round_215 : decode b_M_round 215 = .ok (.iload 11, 2) := by decide +kernel
theorem d_M_round_217 : decode b_M_round 217 = .ok (.invokevirtual 265, 3) := by decide +kernel
theorem d_M_round_220 : decode b_M_round 220 = .ok (.iadd, 1) := by decide +kernel
theorem d_M_round_221 : decode b_M_round 221 = .ok (.istore 10, 2) := by decide +kernel
theorem d_M_round_223 : decode b_M_round 223 = .ok (.iload 10, 2) := by decide +kernel
theorem d_M_round_225 : decode b_M_round 225 = .ok (.iload 6, 2) := by decide +kernel
theorem d_M_round_227 : decode b_M_round 227 = .ok (.if_icmp .ge 37, 3) := by decide +kernel
theorem d_M_round_230 : decode b_M_round 230 = .ok (.iload 10, 2) := by decide +kernel
theorem d_M_round_232 : decode b_M_round 232 = .ok (.istore 6, 2) := by decide +kernel
theorem d_M_round_234 : decode b_M_round 234 = .ok (.iconst 0, 1) := by decide +kernel
theorem d_M_round_235 : decode b_M_round 235 = .ok (.istore 12, 2) := by decide +kernel
theorem d_M_round_237 : decode b_M_round 237 = .ok (.iload 12, 2) := by decide +kernel
theorem d_M_round_239 : decode b_M_round 239 = .ok (.iload 4, 2) := by decide +kernel
theorem d_M_round_241 : decode b_M_round 241 = .ok (.if_icmp .ge 23, 3) := by decide +kernel
theorem d_M_round_244 : decode b_M_round 244 = .ok (.aload_n 0, 1) := by decide +kernel
theorem d_M_round_245 : decode b_M_round 245 = .ok (.getfield 79, 3) := by decide +kernel
theorem d_M_round_248 : decode b_M_round 248 = .ok (.iload 12, 2) := by decide +kernel
theorem d_M_round_250 : decode b_M_round 250 = .ok (.aload_n 0, 1) := by decide +kernel
theorem d_M_round_251 : decode b_M_round 251 = .ok (.getfield 76, 3) := by decide +kernel
theorem d_M_round_254 : decode b_M_round 254 = .ok (.iload 12, 2) := by decide +kernel
theorem d_M_round_256 : decode b_M_round 256 = .ok (.iaload, 1) := by decide +kernel
theorem d_M_round_257 : decode b_M_round 257 = .ok (.iastore, 1) := by decide +kernel
theorem d_M_round_258 : decode b_M_round 258 = .ok (.iinc 12 1, 3) := by decide +kernel
theorem d_M_round_261 : decode b_M_round 261 = .ok (.goto (-24), 3) := by decide +kernel
theorem d_M_round_264 : decode b_M_round 264 = .ok (.iinc 7 1, 3) := by decide +kernel
theorem d_M_round_267 : decode b_M_round 267 = .ok (.goto (-202), 3) := by decide +kernel
theorem d_M_round_270 : decode b_M_round 270 = .ok (.aload_n 0, 1) := by decide +kernel
theorem d_M_round_271 : decode b_M_round 271 = .ok (.iload_n 2, 1) := by decide +kernel
theorem d_M_round_272 : decode b_M_round 272 = .ok (.iload 4, 2) := by decide +kernel
theorem d_M_round_274 : decode b_M_round 274 = .ok (.invokevirtual 240, 3) := by decide +kernel
theorem d_M_round_277 : decode b_M_round 277 = .ok (.istore 7, 2) := by decide +kernel
theorem d_M_round_279 : decode b_M_round 279 = .ok (.iconst 0, 1) := by decide +kernel
theorem d_M_round_280 : decode b_M_round 280 = .ok (.istore 8, 2) := by decide +kernel
theorem d_M_round_282 : decode b_M_round 282 = .ok (.iload 8, 2) := by decide +kernel
theorem d_M_round_284 : decode b_M_round 284 = .ok (.iload 4, 2) := by decide +kernel
theorem d_M_round_286 : decode b_M_round 286 = .ok (.if_icmp .ge 28, 3) := by decide +kernel
theorem d_M_round_289 : decode b_M_round 289 = .ok (.aload_n 0, 1) := by decide +kernel
theorem d_M_round_290 : decode b_M_round 290 = .ok (.getfield 13, 3) := by decide +kernel
theorem d_M_round_293 : decode b_M_round 293 = .ok (.bipush 40, 2) := by decide +kernel
theorem d_M_round_295 : decode b_M_round 295 = .ok (.iload_n 2, 1) := by decide +kernel
theorem d_M_round_296 : decode b_M_round 296 = .ok (.imul, 1) := by decide +kernel
theorem d_M_round_297 : decode b_M_round 297 = .ok (.iload 8, 2) := by decide +kernel
theorem d_M_round_299 : decode b_M_round 299 = .ok (.iadd, 1) := by decide +kernel
theorem d_M_round_300 : decode b_M_round 300 = .ok (.aload_n 0, 1) := by decide +kernel
theorem d_M_round_301 : decode b_M_round 301 = .ok (.getfield 79, 3) := by decide +kernel
theorem d_M_round_304 : decode b_M_round 304 = .ok (.iload 8, 2) := by decide +kernel
theorem d_M_round_306 : decode b_M_round 306 = .ok (.iaload, 1) := by decide +kernel
theorem d_M_round_307 : decode b_M_round 307 = .ok (.iastore, 1) := by decide +kernel
theorem d_M_round_308 : decode b_M_round 308 = .ok (.iinc 8 1, 3) := by decide +kernel
theorem d_M_round_311 : decode b_M_round 311 = .ok (.goto (-29), 3) := by decide +kernel
theorem d_M_round_314 : decode b_M_round 314 = .ok (.iload 6, 2) := by decide +kernel
theorem d_M_round_316 : decode b_M_round 316 = .ok (.ireturn, 1) := by decide +kernel
theorem d_M_post_0 : decode b_M_post 0 = .ok (.aload_n 0, 1) := by decide +kernel
theorem d_M_post_1 : decode b_M_post 1 = .ok (.iload_n 1, 1) := by decide +kernel
theorem d_M_post_2 : decode b_M_post 2 = .ok (.bipush 20, 2) := by decide +kernel
theorem d_M_post_4 : decode b_M_post 4 = .ok (.invokevirtual 262, 3) := by decide +kernel
theorem d_M_post_7 : decode b_M_post 7 = .ok (.istore_n 2, 1) := by decide +kernel
theorem d_M_post_8 : decode b_M_post 8 = .ok (.iload_n 2, 1) := by decide +kernel
theorem d_M_post_9 : decode b_M_post 9 = .ok (.ifCond .ge 5, 3) := by decide +kernel
theorem d_M_post_12 : decode b_M_post 12 = .ok (.iload_n 2, 1) := by decide +kernel
theorem d_M_post_13 : decode b_M_post 13 = .ok (.ireturn, 1) := by decide +kernel
theorem d_M_post_14 : decode b_M_post 14 = .ok (.iconst 0, 1) := by decide +kernel
theorem d_M_post_15 : decode b_M_post 15 = .ok (.istore_n 3, 1) := by decide +kernel
theorem d_M_post_16 : decode b_M_post 16 = .ok (.iconst (-1), 1) := by decide +kernel
theorem d_M_post_17 : decode b_M_post 17 = .ok (.istore 4, 2) := by decide +kernel
theorem d_M_post_19 : decode b_M_post 19 = .ok (.iconst 0, 1) := by decide +kernel
theorem d_M_post_20 : decode b_M_post 20 = .ok (.istore 5, 2) := by decide +kernel
theorem d_M_post_22 : decode b_M_post 22 = .ok (.iload 5, 2) := by decide +kernel
theorem d_M_post_24 : decode b_M_post 24 = .ok (.sipush 556, 3) := by decide +kernel
theorem d_M_post_27 : decode b_M_post 27 = .ok (.if_icmp .ge 96, 3) := by decide +kernel
theorem d_M_post_30 : decode b_M_post 30 = .ok (.iload 5, 2) := by decide +kernel
theorem d_M_post_32 : decode b_M_post 32 = .ok (.invokestatic 213, 3) := by decide +kernel
theorem d_M_post_35 : decode b_M_post 35 = .ok (.ifCond .eq 82, 3) := by decide +kernel
theorem d_M_post_38 : decode b_M_post 38 = .ok (.aload_n 0, 1) := by decide +kernel
theorem d_M_post_39 : decode b_M_post 39 = .ok (.iload 5, 2) := by decide +kernel
theorem d_M_post_41 : decode b_M_post 41 = .ok (.invokevirtual 216, 3) := by decide +kernel
theorem d_M_post_44 : decode b_M_post 44 = .ok (.iload 5, 2) := by decide +kernel
theorem d_M_post_46 : decode b_M_post 46 = .ok (.if_icmp .eq 6, 3) := by decide +kernel
theorem d_M_post_49 : decode b_M_post 49 = .ok (.goto 68, 3) := by decide +kernel
theorem d_M_post_52 : decode b_M_post 52 = .ok (.iconst 0, 1) := by decide +kernel
theorem d_M_post_53 : decode b_M_post 53 = .ok (.istore 6, 2) := by decide +kernel
theorem d_M_post_55 : decode b_M_post 55 = .ok (.iconst 0, 1) := by decide +kernel
theorem d_M_post_56 : decode b_M_post 56 = .ok (.istore 7, 2) := by decide +kernel
theorem d_M_post_58 : decode b_M_post 58 = .ok (.iload 7, 2) := by decide +kernel
theorem d_M_post_60 : decode b_M_post 60 = .ok (.aload_n 0, 1) := by decide +kernel
theorem d_M_post_61 : decode b_M_post 61 = .ok (.getfield 7, 3) := by decide +kernel
theorem d_M_post_64 : decode b_M_post 64 = .ok (.iload_n 1, 1) := by decide +kernel
theorem d_M_post_65 : decode b_M_post 65 = .ok (.iaload, 1) := by decide +kernel
theorem d_M_post_66 : decode b_M_post 66 = .ok (.if_icmp .ge 32, 3) := by decide +kernel
theorem d_M_post_69 : decode b_M_post 69 = .ok (.iload 6, 2) := by decide +kernel
theorem d_M_post_71 : decode b_M_post 71 = .ok (.aload_n 0, 1) := by decide +kernel
theorem d_M_post_72 : decode b_M_post 72 = .ok (.iload 5, 2) := by decide +kernel
theorem d_M_post_74 : decode b_M_post 74 = .ok (.aload_n 0, 1) := by decide +kernel
theorem d_M_post_75 : decode b_M_post 75 = .ok (.getfield 13, 3) := by decide +kernel
theorem d_M_post_78 : decode b_M_post 78 = .ok (.bipush 40, 2) := by decide +kernel
theorem d_M_post_80 : decode b_M_post 80 = .ok (.iload_n 1, 1) := by decide +kernel
theorem d_M_post_81 : decode b_M_post 81 = .ok (.imul, 1) := by decide +kernel
theorem d_M_post_82 : decode b_M_post 82 = .ok (.iload 7, 2) := by decide +kernel
theorem d_M_post_84 : decode b_M_post 84 = .ok (.iadd, 1) := by decide +kernel
theorem d_M_post_85 : decode b_M_post 85 = .ok (.iaload, 1) := by decide +kernel
theorem d_M_post_86 : decode b_M_post 86 = .ok (.invokevirtual 204, 3) := by decide +kernel
theorem d_M_post_89 : decode b_M_post 89 = .ok (.iadd, 1) := by decide +kernel
theorem d_M_post_90 : decode b_M_post 90 = .ok (.istore 6, 2) := by decide +kernel
theorem d_M_post_92 : decode b_M_post 92 = .ok (.iinc 7 1, 3) := by decide +kernel
theorem d_M_post_95 : decode b_M_post 95 = .ok (.goto (-37), 3) := by decide +kernel
theorem d_M_post_98 : decode b_M_post 98 = .ok (.iload 4, 2) := by decide +kernel
theorem d_M_post_100 : decode b_M_post 100 = .ok (.ifCond .lt 10, 3) := by decide +kernel
theorem d_M_post_103 : decode b_M_post 103 = .ok (.iload 6, 2) := by decide +kernel
theorem d_M_post_105 : decode b_M_post 105 = .ok (.iload 4, 2) := by decide +kernel
theorem d_M_post_107 : decode b_M_post 107 = .ok (.if_icmp .ge 10, 3) := by decide +kernel
theorem d_M_post_110 : decode b_M_post 110 = .ok (.iload 5, 2) := by decide +kernel
theorem d_M_post_112 : decode b_M_post 112 = .ok (.istore_n 3, 1) := by decide +kernel
theorem d_M_post_113 : decode b_M_post 113 = .ok (.iload 6, 2) := by decide +kernel
theorem d_M_post_115 : decode b_M_post 115 = .ok (.istore 4, 2) := by decide +kernel
theorem d_M_post_117 : decode b_M_post 117 = .ok (.iinc 5 1, 3) := by decide +kernel
theorem d_M_post_120 : decode b_M_post 120 = .ok (.goto (-98), 3) := by decide +kernel
theorem d_M_post_123 : decode b_M_post 123 = .ok (.aload_n 0, 1) := by decide +kernel
theorem d_M_post_124 : decode b_M_post 124 = .ok (.iload 4, 2) := by decide +kernel
theorem d_M_post_126 : decode b_M_post 126 = .ok (.invokevirtual 114, 3) := by decide +kernel
theorem d_M_post_129 : decode b_M_post 129 = .ok (.istore 5, 2) := by decide +kernel
theorem d_M_post_131 : decode b_M_post 131 = .ok (.iload_n 3, 1) := by decide +kernel
theorem d_M_post_132 : decode b_M_post 132 = .ok (.ireturn, 1) := by decide +kernel
theorem d_M_isBurning_0 : decode b_M_isBurning 0 = .ok (.iconst 0, 1) := by decide +kernel
theorem d_M_isBurning_1 : decode b_M_isBurning 1 = .ok (.istore_n 2, 1) := by decide +kernel
theorem d_M_isBurning_2 : decode b_M_isBurning 2 = .ok (.iconst 0, 1) := by decide +kernel
theorem d_M_isBurning_3 : decode b_M_isBurning 3 = .ok (.istore_n 3, 1) := by decide +kernel
theorem d_M_isBurning_4 : decode b_M_isBurning 4 = .ok (.iload_n 3, 1) := by decide +kernel
theorem d_M_isBurning_5 : decode b_M_isBurning 5 = .ok (.aload_n 0, 1) := by decide +kernel
theorem d_M_isBurning_6 : decode b_M_isBurning 6 = .ok (.getfield 268, 3) := by decide +kernel
theorem d_M_isBurning_9 : decode b_M_isBurning 9 = .ok (.if_icmp .ge 29, 3) := by decide +kernel
theorem d_M_isBurning_12 : decode b_M_isBurning 12 = .ok (.iload_n 2, 1) := by decide +kernel
theorem d_M_isBurning_13 : decode b_M_isBurning 13 = .ok (.ifCond .ne 13, 3) := by decide +kernel
theorem d_M_isBurning_16 : decode b_M_isBurning 16 = .ok (.aload_n 0, 1) := by decide +kernel
theorem d_M_isBurning_17 : decode b_M_isBurning 17 = .ok (.getfield 82, 3) := by decide +kernel
theorem d_M_isBurning_20 : decode b_M_isBurning 20 = .ok (.iload_n 3, 1) := by decide +kernel
theorem d_M_isBurning_21 : decode b_M_isBurning 21 = .ok (.iaload, 1) := by decide +kernel
theorem d_M_isBurning_22 : decode b_M_isBurning 22 = .ok (.iload_n 1, 1) := by decide +kernel
theorem d_M_isBurning_23 : decode b_M_isBurning 23 = .ok (.if_icmp .ne 7, 3) := by decide +kernel
theorem d_M_isBurning_26 : decode b_M_isBurning 26 = .ok (.iconst 1, 1) := by decide +kernel
theorem d_M_isBurning_27 : decode b_M_isBurning 27 = .ok (.goto 4, 3) := by decide +kernel
theorem d_M_isBurning_30 : decode b_M_isBurning 30 = .ok (.iconst 0, 1) := by decide +kernel
theorem d_M_isBurning_31 : decode b_M_isBurning 31 = .ok (.istore_n 2, 1) := by decide +kernel
theorem d_M_isBurning_32 : decode b_M_isBurning 32 = .ok (.iinc 3 1, 3) := by decide +kernel
theorem d_M_isBurning_35 : decode b_M_isBurning 35 = .ok (.goto (-31), 3) := by decide +kernel
theorem d_M_isBurning_38 : decode b_M_isBurning 38 = .ok (.iload_n 2, 1) := by decide +kernel
theorem d_M_isBurning_39 : decode b_M_isBurning 39 = .ok (.ireturn, 1) := by decide +kernel
theorem d_M_fire_0 : decode b_M_fire 0 = .ok (.aload_n 0, 1) := by decide +kernel
theorem d_M_fire_1 : decode b_M_fire 1 = .ok (.getfield 7, 3) := by decide +kernel
theorem d_M_fire_4 : decode b_M_fire 4 = .ok (.iload_n 1, 1) := by decide +kernel
theorem d_M_fire_5 : decode b_M_fire 5 = .ok (.iaload, 1) := by decide +kernel
theorem d_M_fire_6 : decode b_M_fire 6 = .ok (.istore 4, 2) := by decide +kernel
theorem d_M_fire_8 : decode b_M_fire 8 = .ok (.iconst 0, 1) := by decide +kernel
theorem d_M_fire_9 : decode b_M_fire 9 = .ok (.istore 5, 2) := by decide +kernel
theorem d_M_fire_11 : decode b_M_fire 11 = .ok (.iload 5, 2) := by decide +kernel
theorem d_M_fire_13 : decode b_M_fire 13 = .ok (.iload 4, 2) := by decide +kernel
theorem d_M_fire_15 : decode b_M_fire 15 = .ok (.if_icmp .ge 42, 3) := by decide +kernel
theorem d_M_fire_18 : decode b_M_fire 18 = .ok (.aload_n 0, 1) := by decide +kernel
theorem d_M_fire_19 : decode b_M_fire 19 = .ok (.getfield 85, 3) := by decide +kernel
theorem d_M_fire_22 : decode b_M_fire 22 = .ok (.iload 5, 2) := by decide +kernel
theorem d_M_fire_24 : decode b_M_fire 24 = .ok (.iload 5, 2) := by decide +kernel
theorem d_M_fire_26 : decode b_M_fire 26 = .ok (.iload_n 3, 1) := by decide +kernel
theorem d_M_fire_27 : decode b_M_fire 27 = .ok (.if_icmp .ne 7, 3) := by decide +kernel
theorem d_M_fire_30 : decode b_M_fire 30 = .ok (.iconst 0, 1) := by decide +kernel
theorem d_M_fire_31 : decode b_M_fire 31 = .ok (.goto 19, 3) := by decide +kernel
theorem d_M_fire_34 : decode b_M_fire 34 = .ok (.aload_n 0, 1) := by decide +kernel
theorem d_M_fire_35 : decode b_M_fire 35 = .ok (.aload_n 0, 1) := by decide +kernel
theorem d_M_fire_36 : decode b_M_fire 36 = .ok (.getfield 13, 3) := by decide +kernel
theorem d_M_fire_39 : decode b_M_fire 39 = .ok (.bipush 40, 2) := by decide +kernel
theorem d_M_fire_41 : decode b_M_fire 41 = .ok (.iload_n 1, 1) := by decide +kernel
theorem d_M_fire_42 : decode b_M_fire 42 = .ok (.imul, 1) := by decide +kernel
theorem d_M_fire_43 : decode b_M_fire 43 = .ok (.iload 5, 2) := by decide +kernel
theorem d_M_fire_45 : decode b_M_fire 45 = .ok (.iadd, 1) := by decide +kernel
theorem d_M_fire_46 : decode b_M_fire 46 = .ok (.iaload, 1) := by decide +kernel
theorem d_M_fire_47 : decode b_M_fire 47 = .ok (.invokevirtual 216, 3) := by decide +kernel
theorem d_M_fire_50 : decode b_M_fire 50 = .ok (.iastore, 1) := by decide +kernel
theorem d_M_fire_51 : decode b_M_fire 51 = .ok (.iinc 5 1, 3) := by decide +kernel
theorem d_M_fire_54 : decode b_M_fire 54 = .ok (.goto (-43), 3) := by decide +kernel
theorem d_M_fire_57 : decode b_M_fire 57 = .ok (.aload_n 0, 1) := by decide +kernel
theorem d_M_fire_58 : decode b_M_fire 58 = .ok (.getfield 82, 3) := by decide +kernel
theorem d_M_fire_61 : decode b_M_fire 61 = .ok (.iconst 0, 1) := by decide +kernel
theorem d_M_fire_62 : decode b_M_fire 62 = .ok (.iconst 0, 1) := by decide +kernel
theorem d_M_fire_63 : decode b_M_fire 63 = .ok (.iastore, 1) := by decide +kernel
theorem d_M_fire_64 : decode b_M_fire 64 = .ok (.aload_n 0, 1) := by decide +kernel
theorem d_M_fire_65 : decode b_M_fire 65 = .ok (.iconst 1, 1) := by decide +kernel
theorem d_M_fire_66 : decode b_M_fire 66 = .ok (.putfield 268, 3) := by decide +kernel
theorem d_M_fire_69 : decode b_M_fire 69 = .ok (.iconst 0, 1) := by decide +kernel
theorem d_M_fire_70 : decode b_M_fire 70 = .ok (.istore 5, 2) := by decide +kernel
theorem d_M_fire_72 : decode b_M_fire 72 = .ok (.iload 5, 2) := by decide +kernel
theorem d_M_fire_74 : decode b_M_fire 74 = .ok (.iload_n 2, 1) := by decide +kernel
theorem d_M_fire_75 : decode b_M_fire 75 = .ok (.if_icmp .ge 154, 3) := by decide +kernel
theorem d_M_fire_78 : decode b_M_fire 78 = .ok (.aload_n 0, 1) := by decide +kernel
theorem d_M_fire_79 : decode b_M_fire 79 = .ok (.getfield 268, 3) := by decide +kernel
theorem d_M_fire_82 : decode b_M_fire 82 = .ok (.istore 6, 2) := by decide +kernel
theorem d_M_fire_84 : decode b_M_fire 84 = .ok (.iconst 0, 1) := by decide +kernel
theorem d_M_fire_85 : decode b_M_fire 85 = .ok (.istore 7, 2) := by decide +kernel
theorem d_M_fire_87 : decode b_M_fire 87 = .ok (.iload 7, 2) := by decide +kernel
theorem d_M_fire_89 : decode b_M_fire 89 = .ok (.iload 6, 2) := by decide +kernel
theorem d_M_fire_91 : decode b_M_fire 91 = .ok (.if_icmp .ge 132, 3) := by decide +kernel
theorem d_M_fire_94 : decode b_M_fire 94 = .ok (.iconst 0, 1) := by decide +kernel
theorem d_M_fire_95 : decode b_M_fire 95 = .ok (.istore 8, 2) := by decide +kernel
theorem d_M_fire_97 : decode b_M_fire 97 = .ok (.iload 8, 2) := by decide +kernel
theorem d_M_fire_99 : decode b_M_fire 99 = .ok (.iconst 5, 1) := by decide +kernel
theorem d_M_fire_100 : decode b_M_fire 100 = .ok (.if_icmp .ge 117, 3) := by decide +kernel
theorem d_M_fire_103 : decode b_M_fire 103 = .ok (.aload_n 0, 1) := by decide +kernel
theorem d_M_fire_104 : decode b_M_fire 104 = .ok (.aload_n 0, 1) := by decide +kernel
theorem d_M_fire_105 : decode b_M_fire 105 = .ok (.getfield 48, 3) := by decide +kernel
theorem d_M_fire_108 : decode b_M_fire 108 = .ok (.aload_n 0, 1) := by decide +kernel
theorem d_M_fire_109 : decode b_M_fire 109 = .ok (.getfield 48, 3) := by decide +kernel
theorem d_M_fire_112 : decode b_M_fire 112 = .ok (.aload_n 0, 1) := by decide +kernel
theorem d_M_fire_113 : decode b_M_fire 113 = .ok (.getfield 48, 3) := by decide +kernel
theorem d_M_fire_116 : decode b_M_fire 116 = .ok (.iconst 0, 1) := by decide +kernel
theorem d_M_fire_117 : decode b_M_fire 117 = .ok (.aload_n 0, 1) := by decide +kernel
theorem d_M_fire_118 : decode b_M_fire 118 = .ok (.getfield 82, 3) := by decide +kernel
theorem d_M_fire_121 : decode b_M_fire 121 = .ok (.iload 7, 2) := by decide +kernel
theorem d_M_fire_123 : decode b_M_fire 123 = .ok (.iaload, 1) := by decide +kernel
theorem d_M_fire_124 : decode b_M_fire 124 = .ok (.invokestatic 171, 3) := by decide +kernel
theorem d_M_fire_127 : decode b_M_fire 127 = .ok (.iload 8, 2) := by decide +kernel
theorem d_M_fire_129 : decode b_M_fire 129 = .ok (.invokestatic 134, 3) := by decide +kernel
theorem d_M_fire_132 : decode b_M_fire 132 = .ok (.invokevirtual 138, 3) := by decide +kernel
theorem d_M_fire_135 : decode b_M_fire 135 = .ok (.istore 9, 2) := by decide +kernel
theorem d_M_fire_137 : decode b_M_fire 137 = .ok (.aload_n 0, 1) := by decide +kernel
theorem d_M_fire_138 : decode b_M_fire 138 = .ok (.iload 9, 2) := by decide +kernel
theorem d_M_fire_140 : decode b_M_fire 140 = .ok (.invokevirtual 271, 3) := by decide +kernel
theorem d_M_fire_143 : decode b_M_fire 143 = .ok (.istore 10, 2) := by decide +kernel
theorem d_M_fire_145 : decode b_M_fire 145 = .ok (.iconst 0, 1) := by decide +kernel
theorem d_M_fire_146 : decode b_M_fire 146 = .ok (.istore 11, 2) := by decide +kernel
theorem d_M_fire_148 : decode b_M_fire 148 = .ok (.iload 11, 2) := by decide +kernel
theorem d_M_fire_150 : decode b_M_fire 150 = .ok (.iload 4, 2) := by decide +kernel
theorem d_M_fire_152 : decode b_M_fire 152 = .ok (.if_icmp .ge 33, 3) := by decide +kernel
theorem d_M_fire_155 : decode b_M_fire 155 = .ok (.iload 10, 2) := by decide +kernel
theorem d_M_fire_157 : decode b_M_fire 157 = .ok (.ifCond .ne 15, 3) := by decide +kernel
theorem d_M_fire_160 : decode b_M_fire 160 = .ok (.aload_n 0, 1) := by decide +kernel
theorem d_M_fire_161 : decode b_M_fire 161 = .ok (.getfield 85, 3) := by decide +kernel
theorem d_M_fire_164 : decode b_M_fire 164 = .ok (.iload 11, 2) := by decide +kernel
theorem d_M_fire_166 : decode b_M_fire 166 = .ok (.iaload, 1) := by decide +kernel
theorem d_M_fire_167 : decode b_M_fire 167 = .ok (.iload 9, 2) := by decide +kernel
theorem d_M_fire_169 : decode b_M_fire 169 = .ok (.if_icmp .ne 7, 3) := by decide +kernel
theorem d_M_fire_172 : decode b_M_fire 172 = .ok (.iconst 1, 1) := by decide +kernel
theorem d_M_fire_173 : decode b_M_fire 173 = .ok (.goto 4, 3) := by decide +kernel
theorem d_M_fire_176 : decode b_M_fire 176 = .ok (.iconst 0, 1) := by decide +kernel
theorem d_M_fire_177 : decode b_M_fire 177 = .ok (.istore 10, 2) := by decide +kernel
theorem d_M_fire_179 : decode b_M_fire 179 = .ok (.iinc 11 1, 3) := by decide +kernel
theorem d_M_fire_182 : decode b_M_fire 182 = .ok (.goto (-34), 3) := by decide +kernel
theorem d_M_fire_185 : decode b_M_fire 185 = .ok (.iload 10, 2) := by decide +kernel
theorem d_M_fire_187 : decode b_M_fire 187 = .ok (.ifCond .ne 24, 3) := by decide +kernel
theorem d_M_fire_190 : decode b_M_fire 190 = .ok (.aload_n 0, 1) := by decide +kernel
theorem d_M_fire_191 : decode b_M_fire 191 = .ok (.getfield 82, 3) := by decide +kernel
theorem d_M_fire_194 : decode b_M_fire 194 = .ok (.aload_n 0, 1) := by decide +kernel
theorem d_M_fire_195 : decode b_M_fire 195 = .ok (.getfield 268, 3) := by decide +kernel
theorem d_M_fire_198 : decode b_M_fire 198 = .ok (.iload 9, 2) := by decide +kernel
theorem d_M_fire_200 : decode b_M_fire 200 = .ok (.iastore, 1) := by decide +kernel
theorem d_M_fire_201 : decode b_M_fire 201 = .ok (.aload_n 0, 1) := by decide +kernel
theorem d_M_fire_202 : decode b_M_fire 202 = .ok (.dup, 1) := by decide +kernel
theorem d_M_fire_203 : decode b_M_fire 203 = .ok (.getfield 268, 3) := by decide +kernel
theorem d_M_fire_206 : decode b_M_fire 206 = .ok (.iconst 1, 1) := by decide +kernel
theorem d_M_fire_207 : decode b_M_fire 207 = .ok (.iadd, 1) := by decide +kernel
theorem d_M_fire_208 : decode b_M_fire 208 = .ok (.putfield 268, 3) := by decide +kernel
theorem d_M_fire_211 : decode b_M_fire 211 = .ok (.iinc 8 1, 3) := by decide +kernel
theorem d_M_fire_214 : decode b_M_fire 214 = .ok (.goto (-117), 3) := by decide +kernel
theorem d_M_fire_217 : decode b_M_fire 217 = .ok (.iinc 7 1, 3) := by decide +kernel
theorem d_M_fire_220 : decode b_M_fire 220 = .ok (.goto (-133), 3) := by decide +kernel
theorem d_M_fire_223 : decode b_M_fire 223 = .ok (.iinc 5 1, 3) := by decide +kernel
theorem d_M_fire_226 : decode b_M_fire 226 = .ok (.goto (-154), 3) := by decide +kernel
theorem d_M_fire_229 : decode b_M_fire 229 = .ok (.aload_n 0, 1) := by decide +kernel
theorem d_M_fire_230 : decode b_M_fire 230 = .ok (.getfield 268, 3) := by decide +kernel
theorem d_M_fire_233 : decode b_M_fire 233 = .ok (.ireturn, 1) := by decide +kernel
theorem d_M_burns_0 : decode b_M_burns 0 = .ok (.iload_n 2, 1) := by decide +kernel
theorem d_M_burns_1 : decode b_M_burns 1 = .ok (.i2l, 1) := by decide +kernel
theorem d_M_burns_2 : decode b_M_burns 2 = .ok (.lconst 0, 1) := by decide +kernel
theorem d_M_burns_3 : decode b_M_burns 3 = .ok (.ldc2_w 120, 3) := by decide +kernel
theorem d_M_burns_6 : decode b_M_burns 6 = .ok (.invokestatic 100, 3) := by decide +kernel
theorem d_M_burns_9 : decode b_M_burns 9 = .ok (.ifCond .ne 5, 3) := by decide +kernel
theorem d_M_burns_12 : decode b_M_burns 12 = .ok (.iconst (-1), 1) := by decide +kernel
theorem d_M_burns_13 : decode b_M_burns 13 = .ok (.ireturn, 1) := by decide +kernel
theorem d_M_burns_14 : decode b_M_burns 14 = .ok (.aload_n 0, 1) := by decide +kernel
theorem d_M_burns_15 : decode b_M_burns 15 = .ok (.iload_n 1, 1) := by decide +kernel
theorem d_M_burns_16 : decode b_M_burns 16 = .ok (.bipush 20, 2) := by decide +kernel
theorem d_M_burns_18 : decode b_M_burns 18 = .ok (.invokevirtual 262, 3) := by decide +kernel
theorem d_M_burns_21 : decode b_M_burns 21 = .ok (.istore_n 3, 1) := by decide +kernel
theorem d_M_burns_22 : decode b_M_burns 22 = .ok (.iload_n 3, 1) := by decide +kernel
theorem d_M_burns_23 : decode b_M_burns 23 = .ok (.ifCond .ge 7, 3) := by decide +kernel
theorem d_M_burns_26 : decode b_M_burns 26 = .ok (.iload_n 3, 1) := by decide +kernel
theorem d_M_burns_27 : decode b_M_burns 27 = .ok (.goto 11, 3) := by decide +kernel
theorem d_M_burns_30 : decode b_M_burns 30 = .ok (.aload_n 0, 1) := by decide +kernel
theorem d_M_burns_31 : decode b_M_burns 31 = .ok (.iload_n 1, 1) := by decide +kernel
theorem d_M_burns_32 : decode b_M_burns 32 = .ok (.iload_n 2, 1) := by decide +kernel
theorem d_M_burns_33 : decode b_M_burns 33 = .ok (.bipush (-9), 2) := by decide +kernel
theorem d_M_burns_35 : decode b_M_burns 35 = .ok (.invokevirtual 274, 3) := by decide +kernel
theorem d_M_burns_38 : decode b_M_burns 38 = .ok (.ireturn, 1) := by decide +kernel
theorem d_M_held_0 : decode b_M_held 0 = .ok (.aload_n 0, 1) := by decide +kernel
theorem d_M_held_1 : decode b_M_held 1 = .ok (.iload_n 1, 1) := by decide +kernel
theorem d_M_held_2 : decode b_M_held 2 = .ok (.bipush 20, 2) := by decide +kernel
theorem d_M_held_4 : decode b_M_held 4 = .ok (.invokevirtual 262, 3) := by decide +kernel
theorem d_M_held_7 : decode b_M_held 7 = .ok (.istore_n 2, 1) := by decide +kernel
theorem d_M_held_8 : decode b_M_held 8 = .ok (.iload_n 2, 1) := by decide +kernel
theorem d_M_held_9 : decode b_M_held 9 = .ok (.ifCond .ge 5, 3) := by decide +kernel
theorem d_M_held_12 : decode b_M_held 12 = .ok (.iload_n 2, 1) := by decide +kernel
theorem d_M_held_13 : decode b_M_held 13 = .ok (.ireturn, 1) := by decide +kernel
theorem d_M_held_14 : decode b_M_held 14 = .ok (.aload_n 0, 1) := by decide +kernel
theorem d_M_held_15 : decode b_M_held 15 = .ok (.aload_n 0, 1) := by decide +kernel
theorem d_M_held_16 : decode b_M_held 16 = .ok (.iload_n 1, 1) := by decide +kernel
theorem d_M_held_17 : decode b_M_held 17 = .ok (.iconst 4, 1) := by decide +kernel
theorem d_M_held_18 : decode b_M_held 18 = .ok (.bipush (-9), 2) := by decide +kernel
theorem d_M_held_20 : decode b_M_held 20 = .ok (.invokevirtual 274, 3) := by decide +kernel
theorem d_M_held_23 : decode b_M_held 23 = .ok (.invokevirtual 114, 3) := by decide +kernel
theorem d_M_held_26 : decode b_M_held 26 = .ok (.istore_n 3, 1) := by decide +kernel
theorem d_M_held_27 : decode b_M_held 27 = .ok (.iconst 1, 1) := by decide +kernel
theorem d_M_held_28 : decode b_M_held 28 = .ok (.istore 4, 2) := by decide +kernel
theorem d_M_held_30 : decode b_M_held 30 = .ok (.iconst 0, 1) := by decide +kernel
theorem d_M_held_31 : decode b_M_held 31 = .ok (.istore 5, 2) := by decide +kernel
theorem d_M_held_33 : decode b_M_held 33 = .ok (.iload 5, 2) := by decide +kernel
theorem d_M_held_35 : decode b_M_held 35 = .ok (.aload_n 0, 1) := by decide +kernel
theorem d_M_held_36 : decode b_M_held 36 = .ok (.getfield 268, 3) := by decide +kernel
theorem d_M_held_39 : decode b_M_held 39 = .ok (.if_icmp .ge 35, 3) := by decide +kernel
theorem d_M_held_42 : decode b_M_held 42 = .ok (.iload 4, 2) := by decide +kernel
theorem d_M_held_44 : decode b_M_held 44 = .ok (.ifCond .eq 21, 3) := by decide +kernel
theorem d_M_held_47 : decode b_M_held 47 = .ok (.aload_n 0, 1) := by decide +kernel
theorem d_M_held_48 : decode b_M_held 48 = .ok (.getfield 82, 3) := by decide +kernel
theorem d_M_held_51 : decode b_M_held 51 = .ok (.iload 5, 2) := by decide +kernel
theorem d_M_held_53 : decode b_M_held 53 = .ok (.iaload, 1) := by decide +kernel
theorem d_M_held_54 : decode b_M_held 54 = .ok (.invokestatic 162, 3) := by decide +kernel
theorem d_M_held_57 : decode b_M_held 57 = .ok (.iconst 4, 1) := by decide +kernel
theorem d_M_held_58 : decode b_M_held 58 = .ok (.if_icmp .ge 7, 3) := by decide +kernel
theorem d_M_held_61 : decode b_M_held 61 = .ok (.iconst 1, 1) := by decide +kernel
theorem d_M_held_62 : decode b_M_held 62 = .ok (.goto 4, 3) := by decide +kernel
theorem d_M_held_65 : decode b_M_held 65 = .ok (.iconst 0, 1) := by decide +kernel
theorem d_M_held_66 : decode b_M_held 66 = .ok (.istore 4, 2) := by decide +kernel
theorem d_M_held_68 : decode b_M_held 68 = .ok (.iinc 5 1, 3) := by decide +kernel
theorem d_M_held_71 : decode b_M_held 71 = .ok (.goto (-38), 3) := by decide +kernel
theorem d_M_held_74 : decode b_M_held 74 = .ok (.iload 4, 2) := by decide +kernel
theorem d_M_held_76 : decode b_M_held 76 = .ok (.ifCond .eq 7, 3) := by decide +kernel
theorem d_M_held_79 : decode b_M_held 79 = .ok (.iconst 1, 1) := by decide +kernel
theorem d_M_held_80 : decode b_M_held 80 = .ok (.goto 4, 3) := by decide +kernel
theorem d_M_held_83 : decode b_M_held 83 = .ok (.iconst 0, 1) := by decide +kernel
theorem d_M_held_84 : decode b_M_held 84 = .ok (.ireturn, 1) := by decide +kernel
theorem d_M_idle_0 : decode b_M_idle 0 = .ok (.aload_n 0, 1) := by decide +kernel
theorem d_M_idle_1 : decode b_M_idle 1 = .ok (.iload_n 1, 1) := by decide +kernel
theorem d_M_idle_2 : decode b_M_idle 2 = .ok (.bipush 20, 2) := by decide +kernel
theorem d_M_idle_4 : decode b_M_idle 4 = .ok (.invokevirtual 262, 3) := by decide +kernel
theorem d_M_idle_7 : decode b_M_idle 7 = .ok (.istore_n 2, 1) := by decide +kernel
theorem d_M_idle_8 : decode b_M_idle 8 = .ok (.iload_n 2, 1) := by decide +kernel
theorem d_M_idle_9 : decode b_M_idle 9 = .ok (.ifCond .ge 5, 3) := by decide +kernel
theorem d_M_idle_12 : decode b_M_idle 12 = .ok (.iload_n 2, 1) := by decide +kernel
theorem d_M_idle_13 : decode b_M_idle 13 = .ok (.ireturn, 1) := by decide +kernel
theorem d_M_idle_14 : decode b_M_idle 14 = .ok (.aload_n 0, 1) := by decide +kernel
theorem d_M_idle_15 : decode b_M_idle 15 = .ok (.iload_n 1, 1) := by decide +kernel
theorem d_M_idle_16 : decode b_M_idle 16 = .ok (.iconst 4, 1) := by decide +kernel
theorem d_M_idle_17 : decode b_M_idle 17 = .ok (.bipush (-9), 2) := by decide +kernel
theorem d_M_idle_19 : decode b_M_idle 19 = .ok (.invokevirtual 274, 3) := by decide +kernel
theorem d_M_idle_22 : decode b_M_idle 22 = .ok (.istore_n 3, 1) := by decide +kernel
theorem d_M_idle_23 : decode b_M_idle 23 = .ok (.iconst 0, 1) := by decide +kernel
theorem d_M_idle_24 : decode b_M_idle 24 = .ok (.istore 4, 2) := by decide +kernel
theorem d_M_idle_26 : decode b_M_idle 26 = .ok (.iload 4, 2) := by decide +kernel
theorem d_M_idle_28 : decode b_M_idle 28 = .ok (.aload_n 0, 1) := by decide +kernel
theorem d_M_idle_29 : decode b_M_idle 29 = .ok (.getfield 7, 3) := by decide +kernel
theorem d_M_idle_32 : decode b_M_idle 32 = .ok (.iload_n 1, 1) := by decide +kernel
theorem d_M_idle_33 : decode b_M_idle 33 = .ok (.iaload, 1) := by decide +kernel
theorem d_M_idle_34 : decode b_M_idle 34 = .ok (.if_icmp .ge 24, 3) := by decide +kernel
theorem d_M_idle_37 : decode b_M_idle 37 = .ok (.aload_n 0, 1) := by decide +kernel
theorem d_M_idle_38 : decode b_M_idle 38 = .ok (.iload_n 1, 1) := by decide +kernel
theorem d_M_idle_39 : decode b_M_idle 39 = .ok (.iconst 4, 1) := by decide +kernel
theorem d_M_idle_40 : decode b_M_idle 40 = .ok (.iload 4, 2) := by decide +kernel
theorem d_M_idle_42 : decode b_M_idle 42 = .ok (.invokevirtual 274, 3) := by decide +kernel
theorem d_M_idle_45 : decode b_M_idle 45 = .ok (.iload_n 3, 1) := by decide +kernel
theorem d_M_idle_46 : decode b_M_idle 46 = .ok (.if_icmp .ne 6, 3) := by decide +kernel
theorem d_M_idle_49 : decode b_M_idle 49 = .ok (.iload 4, 2) := by decide +kernel
theorem d_M_idle_51 : decode b_M_idle 51 = .ok (.ireturn, 1) := by decide +kernel
theorem d_M_idle_52 : decode b_M_idle 52 = .ok (.iinc 4 1, 3) := by decide +kernel
theorem d_M_idle_55 : decode b_M_idle 55 = .ok (.goto (-29), 3) := by decide +kernel
theorem d_M_idle_58 : decode b_M_idle 58 = .ok (.bipush (-9), 2) := by decide +kernel
theorem d_M_idle_60 : decode b_M_idle 60 = .ok (.ireturn, 1) := by decide +kernel
theorem d_M_areTwo_0 : decode b_M_areTwo 0 = .ok (.aload_n 0, 1) := by decide +kernel
theorem d_M_areTwo_1 : decode b_M_areTwo 1 = .ok (.iload_n 1, 1) := by decide +kernel
theorem d_M_areTwo_2 : decode b_M_areTwo 2 = .ok (.invokevirtual 191, 3) := by decide +kernel
theorem d_M_areTwo_5 : decode b_M_areTwo 5 = .ok (.ifCond .eq 20, 3) := by decide +kernel
theorem d_M_areTwo_8 : decode b_M_areTwo 8 = .ok (.aload_n 0, 1) := by decide +kernel
theorem d_M_areTwo_9 : decode b_M_areTwo 9 = .ok (.iload_n 2, 1) := by decide +kernel
theorem d_M_areTwo_10 : decode b_M_areTwo 10 = .ok (.invokevirtual 191, 3) := by decide +kernel
theorem d_M_areTwo_13 : decode b_M_areTwo 13 = .ok (.ifCond .eq 12, 3) := by decide +kernel
theorem d_M_areTwo_16 : decode b_M_areTwo 16 = .ok (.iload_n 1, 1) := by decide +kernel
theorem d_M_areTwo_17 : decode b_M_areTwo 17 = .ok (.iload_n 2, 1) := by decide +kernel
theorem d_M_areTwo_18 : decode b_M_areTwo 18 = .ok (.if_icmp .eq 7, 3) := by decide +kernel
theorem d_M_areTwo_21 : decode b_M_areTwo 21 = .ok (.iconst 1, 1) := by decide +kernel
theorem d_M_areTwo_22 : decode b_M_areTwo 22 = .ok (.goto 4, 3) := by decide +kernel
theorem d_M_areTwo_25 : decode b_M_areTwo 25 = .ok (.iconst 0, 1) := by decide +kernel
theorem d_M_areTwo_26 : decode b_M_areTwo 26 = .ok (.ireturn, 1) := by decide +kernel
theorem d_M_meet_0 : decode b_M_meet 0 = .ok (.aload_n 0, 1) := by decide +kernel
theorem d_M_meet_1 : decode b_M_meet 1 = .ok (.iload_n 1, 1) := by decide +kernel
theorem d_M_meet_2 : decode b_M_meet 2 = .ok (.iload_n 2, 1) := by decide +kernel
theorem d_M_meet_3 : decode b_M_meet 3 = .ok (.invokevirtual 278, 3) := by decide +kernel
theorem d_M_meet_6 : decode b_M_meet 6 = .ok (.ifCond .ne 5, 3) := by decide +kernel
theorem d_M_meet_9 : decode b_M_meet 9 = .ok (.iconst (-1), 1) := by decide +kernel
theorem d_M_meet_10 : decode b_M_meet 10 = .ok (.ireturn, 1) := by decide +kernel
theorem d_M_meet_11 : decode b_M_meet 11 = .ok (.aload_n 0, 1) := by decide +kernel
theorem d_M_meet_12 : decode b_M_meet 12 = .ok (.invokevirtual 201, 3) := by decide +kernel
theorem d_M_meet_15 : decode b_M_meet 15 = .ok (.iconst 0, 1) := by decide +kernel
theorem d_M_meet_16 : decode b_M_meet 16 = .ok (.istore_n 3, 1) := by decide +kernel
theorem d_M_meet_17 : decode b_M_meet 17 = .ok (.iload_n 3, 1) := by decide +kernel
theorem d_M_meet_18 : decode b_M_meet 18 = .ok (.bipush 40, 2) := by decide +kernel
theorem d_M_meet_20 : decode b_M_meet 20 = .ok (.if_icmp .gt 65, 3) := by decide +kernel
theorem d_M_meet_23 : decode b_M_meet 23 = .ok (.aload_n 0, 1) := by decide +kernel
theorem d_M_meet_24 : decode b_M_meet 24 = .ok (.getfield 63, 3) := by decide +kernel
theorem d_M_meet_27 : decode b_M_meet 27 = .ok (.bipush 7, 2) := by decide +kernel
theorem d_M_meet_29 : decode b_M_meet 29 = .ok (.iload_n 1, 1) := by decide +kernel
theorem d_M_meet_30 : decode b_M_meet 30 = .ok (.iadd, 1) := by decide +kernel
theorem d_M_meet_31 : decode b_M_meet 31 = .ok (.iaload, 1) := by decide +kernel
theorem d_M_meet_32 : decode b_M_meet 32 = .ok (.aload_n 0, 1) := by decide +kernel
theorem d_M_meet_33 : decode b_M_meet 33 = .ok (.getfield 63, 3) := by decide +kernel
theorem d_M_meet_36 : decode b_M_meet 36 = .ok (.bipush 7, 2) := by decide +kernel
theorem d_M_meet_38 : decode b_M_meet 38 = .ok (.iload_n 2, 1) := by decide +kernel
theorem d_M_meet_39 : decode b_M_meet 39 = .ok (.iadd, 1) := by decide +kernel
theorem d_M_meet_40 : decode b_M_meet 40 = .ok (.iaload, 1) := by decide +kernel
theorem d_M_meet_41 : decode b_M_meet 41 = .ok (.if_icmp .ne 20, 3) := by decide +kernel
theorem d_M_meet_44 : decode b_M_meet 44 = .ok (.aload_n 0, 1) := by decide +kernel
theorem d_M_meet_45 : decode b_M_meet 45 = .ok (.aload_n 0, 1) := by decide +kernel
theorem d_M_meet_46 : decode b_M_meet 46 = .ok (.getfield 63, 3) := by decide +kernel
theorem d_M_meet_49 : decode b_M_meet 49 = .ok (.bipush 7, 2) := by decide +kernel
theorem d_M_meet_51 : decode b_M_meet 51 = .ok (.iload_n 1, 1) := by decide +kernel
theorem d_M_meet_52 : decode b_M_meet 52 = .ok (.iadd, 1) := by decide +kernel
theorem d_M_meet_53 : decode b_M_meet 53 = .ok (.iaload, 1) := by decide +kernel
theorem d_M_meet_54 : decode b_M_meet 54 = .ok (.invokevirtual 114, 3) := by decide +kernel
theorem d_M_meet_57 : decode b_M_meet 57 = .ok (.istore 4, 2) := by decide +kernel
theorem d_M_meet_59 : decode b_M_meet 59 = .ok (.iload_n 3, 1) := by decide +kernel
theorem d_M_meet_60 : decode b_M_meet 60 = .ok (.ireturn, 1) := by decide +kernel
theorem d_M_meet_61 : decode b_M_meet 61 = .ok (.aload_n 0, 1) := by decide +kernel
theorem d_M_meet_62 : decode b_M_meet 62 = .ok (.aload_n 0, 1) := by decide +kernel
theorem d_M_meet_63 : decode b_M_meet 63 = .ok (.getfield 63, 3) := by decide +kernel
theorem d_M_meet_66 : decode b_M_meet 66 = .ok (.iload_n 1, 1) := by decide +kernel
theorem d_M_meet_67 : decode b_M_meet 67 = .ok (.invokevirtual 210, 3) := by decide +kernel
theorem d_M_meet_70 : decode b_M_meet 70 = .ok (.aload_n 0, 1) := by decide +kernel
theorem d_M_meet_71 : decode b_M_meet 71 = .ok (.aload_n 0, 1) := by decide +kernel
theorem d_M_meet_72 : decode b_M_meet 72 = .ok (.getfield 63, 3) := by decide +kernel
theorem d_M_meet_75 : decode b_M_meet 75 = .ok (.iload_n 2, 1) := by decide +kernel
theorem d_M_meet_76 : decode b_M_meet 76 = .ok (.invokevirtual 210, 3) := by decide +kernel
theorem d_M_meet_79 : decode b_M_meet 79 = .ok (.iinc 3 1, 3) := by decide +kernel
theorem d_M_meet_82 : decode b_M_meet 82 = .ok (.goto (-65), 3) := by decide +kernel
theorem d_M_meet_85 : decode b_M_meet 85 = .ok (.bipush (-9), 2) := by decide +kernel
theorem d_M_meet_87 : decode b_M_meet 87 = .ok (.ireturn, 1) := by decide +kernel
theorem d_M_part_0 : decode b_M_part 0 = .ok (.aload_n 0, 1) := by decide +kernel
theorem d_M_part_1 : decode b_M_part 1 = .ok (.iload_n 1, 1) := by decide +kernel
theorem d_M_part_2 : decode b_M_part 2 = .ok (.iload_n 2, 1) := by decide +kernel
theorem d_M_part_3 : decode b_M_part 3 = .ok (.invokevirtual 278, 3) := by decide +kernel
theorem d_M_part_6 : decode b_M_part 6 = .ok (.ifCond .eq 15, 3) := by decide +kernel
theorem d_M_part_9 : decode b_M_part 9 = .ok (.iload_n 3, 1) := by decide +kernel
theorem d_M_part_10 : decode b_M_part 10 = .ok (.i2l, 1) := by decide +kernel
theorem d_M_part_11 : decode b_M_part 11 = .ok (.lconst 0, 1) := by decide +kernel
theorem d_M_part_12 : decode b_M_part 12 = .ok (.ldc2_w 281, 3) := by decide +kernel
theorem d_M_part_15 : decode b_M_part 15 = .ok (.invokestatic 100, 3) := by decide +kernel
theorem d_M_part_18 : decode b_M_part 18 = .ok (.ifCond .ne 5, 3) := by decide +kernel
theorem d_M_part_21 : decode b_M_part 21 = .ok (.iconst (-1), 1) := by decide +kernel
theorem d_M_part_22 : decode b_M_part 22 = .ok (.ireturn, 1) := by decide +kernel
theorem d_M_part_23 : decode b_M_part 23 = .ok (.aload_n 0, 1) := by decide +kernel
theorem d_M_part_24 : decode b_M_part 24 = .ok (.invokevirtual 201, 3) := by decide +kernel
theorem d_M_part_27 : decode b_M_part 27 = .ok (.iconst 0, 1) := by decide +kernel
theorem d_M_part_28 : decode b_M_part 28 = .ok (.istore 4, 2) := by decide +kernel
theorem d_M_part_30 : decode b_M_part 30 = .ok (.iload 4, 2) := by decide +kernel
theorem d_M_part_32 : decode b_M_part 32 = .ok (.iload_n 3, 1) := by decide +kernel
theorem d_M_part_33 : decode b_M_part 33 = .ok (.if_icmp .ge 27, 3) := by decide +kernel
theorem d_M_part_36 : decode b_M_part 36 = .ok (.aload_n 0, 1) := by decide +kernel
theorem d_M_part_37 : decode b_M_part 37 = .ok (.aload_n 0, 1) := by decide +kernel
theorem d_M_part_38 : decode b_M_part 38 = .ok (.getfield 63, 3) := by decide +kernel
theorem d_M_part_41 : decode b_M_part 41 = .ok (.iload_n 1, 1) := by decide +kernel
theorem d_M_part_42 : decode b_M_part 42 = .ok (.invokevirtual 210, 3) := by decide +kernel
theorem d_M_part_45 : decode b_M_part 45 = .ok (.aload_n 0, 1) := by decide +kernel
theorem d_M_part_46 : decode b_M_part 46 = .ok (.aload_n 0, 1) := by decide +kernel
theorem d_M_part_47 : decode b_M_part 47 = .ok (.getfield 63, 3) := by decide +kernel
theorem d_M_part_50 : decode b_M_part 50 = .ok (.iload_n 2, 1) := by decide +kernel
theorem d_M_part_51 : decode b_M_part 51 = .ok (.invokevirtual 210, 3) := by decide +kernel
theorem d_M_part_54 : decode b_M_part 54 = .ok (.iinc 4 1, 3) := by decide +kernel
theorem d_M_part_57 : decode b_M_part 57 = .ok (.goto (-27), 3) := by decide +kernel
theorem d_M_part_60 : decode b_M_part 60 = .ok (.aload_n 0, 1) := by decide +kernel
theorem d_M_part_61 : decode b_M_part 61 = .ok (.aload_n 0, 1) := by decide +kernel
theorem d_M_part_62 : decode b_M_part 62 = .ok (.getfield 63, 3) := by decide +kernel
theorem d_M_part_65 : decode b_M_part 65 = .ok (.bipush 7, 2) := by decide +kernel
theorem d_M_part_67 : decode b_M_part 67 = .ok (.iload_n 1, 1) := by decide +kernel
theorem d_M_part_68 : decode b_M_part 68 = .ok (.iadd, 1) := by decide +kernel
theorem d_M_part_69 : decode b_M_part 69 = .ok (.iaload, 1) := by decide +kernel
theorem d_M_part_70 : decode b_M_part 70 = .ok (.aload_n 0, 1) := by decide +kernel
theorem d_M_part_71 : decode b_M_part 71 = .ok (.getfield 63, 3) := by decide +kernel
theorem d_M_part_74 : decode b_M_part 74 = .ok (.bipush 7, 2) := by decide +kernel
theorem d_M_part_76 : decode b_M_part 76 = .ok (.iload_n 2, 1) := by decide +kernel
theorem d_M_part_77 : decode b_M_part 77 = .ok (.iadd, 1) := by decide +kernel
theorem d_M_part_78 : decode b_M_part 78 = .ok (.iaload, 1) := by decide +kernel
theorem d_M_part_79 : decode b_M_part 79 = .ok (.invokevirtual 204, 3) := by decide +kernel
theorem d_M_part_82 : decode b_M_part 82 = .ok (.ireturn, 1) := by decide +kernel
theorem d_M_drunk_0 : decode b_M_drunk 0 = .ok (.iload_n 1, 1) := by decide +kernel
theorem d_M_drunk_1 : decode b_M_drunk 1 = .ok (.i2l, 1) := by decide +kernel
theorem d_M_drunk_2 : decode b_M_drunk 2 = .ok (.lconst 1, 1) := by decide +kernel
theorem d_M_drunk_3 : decode b_M_drunk 3 = .ok (.ldc2_w 283, 3) := by decide +kernel
theorem d_M_drunk_6 : decode b_M_drunk 6 = .ok (.invokestatic 100, 3) := by decide +kernel
theorem d_M_drunk_9 : decode b_M_drunk 9 = .ok (.ifCond .eq 15, 3) := by decide +kernel
theorem d_M_drunk_12 : decode b_M_drunk 12 = .ok (.iload_n 2, 1) := by decide +kernel
theorem d_M_drunk_13 : decode b_M_drunk 13 = .ok (.i2l, 1) := by decide +kernel
theorem d_M_drunk_14 : decode b_M_drunk 14 = .ok (.lconst 1, 1) := by decide +kernel
theorem d_M_drunk_15 : decode b_M_drunk 15 = .ok (.ldc2_w 285, 3) := by decide +kernel
theorem d_M_drunk_18 : decode b_M_drunk 18 = .ok (.invokestatic 100, 3) := by decide +kernel
theorem d_M_drunk_21 : decode b_M_drunk 21 = .ok (.ifCond .ne 5, 3) := by decide +kernel
theorem d_M_drunk_24 : decode b_M_drunk 24 = .ok (.iconst (-1), 1) := by decide +kernel
theorem d_M_drunk_25 : decode b_M_drunk 25 = .ok (.ireturn, 1) := by decide +kernel
theorem d_M_drunk_26 : decode b_M_drunk 26 = .ok (.iload_n 2, 1) := by decide +kernel
theorem d_M_drunk_27 : decode b_M_drunk 27 = .ok (.i2l, 1) := by decide +kernel
theorem d_M_drunk_28 : decode b_M_drunk 28 = .ok (.lstore_n 3, 1) := by decide +kernel
theorem d_M_drunk_29 : decode b_M_drunk 29 = .ok (.iconst 0, 1) := by decide +kernel
theorem d_M_drunk_30 : decode b_M_drunk 30 = .ok (.istore 5, 2) := by decide +kernel
theorem d_M_drunk_32 : decode b_M_drunk 32 = .ok (.iconst 0, 1) := by decide +kernel
theorem d_M_drunk_33 : decode b_M_drunk 33 = .ok (.istore 6, 2) := by decide +kernel
theorem d_M_drunk_35 : decode b_M_drunk 35 = .ok (.iconst 0, 1) := by decide +kernel
theorem d_M_drunk_36 : decode b_M_drunk 36 = .ok (.istore 7, 2) := by decide +kernel
theorem d_M_drunk_38 : decode b_M_drunk 38 = .ok (.iload 7, 2) := by decide +kernel
theorem d_M_drunk_40 : decode b_M_drunk 40 = .ok (.iload_n 1, 1) := by decide +kernel
theorem d_M_drunk_41 : decode b_M_drunk 41 = .ok (.if_icmp .ge 83, 3) := by decide +kernel
theorem d_M_drunk_44 : decode b_M_drunk 44 = .ok (.ldc2_w 287, 3) := by decide +kernel
theorem d_M_drunk_47 : decode b_M_drunk 47 = .ok (.lload_n 3, 1) := by decide +kernel
theorem d_M_drunk_48 : decode b_M_drunk 48 = .ok (.lmul, 1) := by decide +kernel
theorem d_M_drunk_49 : decode b_M_drunk 49 = .ok (.ldc2_w 289, 3) := by decide +kernel
theorem d_M_drunk_52 : decode b_M_drunk 52 = .ok (.lrem, 1) := by decide +kernel
theorem d_M_drunk_53 : decode b_M_drunk 53 = .ok (.lstore_n 3, 1) := by decide +kernel
theorem d_M_drunk_54 : decode b_M_drunk 54 = .ok (.aload_n 0, 1) := by decide +kernel
theorem d_M_drunk_55 : decode b_M_drunk 55 = .ok (.getfield 48, 3) := by decide +kernel
theorem d_M_drunk_58 : decode b_M_drunk 58 = .ok (.aload_n 0, 1) := by decide +kernel
theorem d_M_drunk_59 : decode b_M_drunk 59 = .ok (.getfield 48, 3) := by decide +kernel
theorem d_M_drunk_62 : decode b_M_drunk 62 = .ok (.iconst 0, 1) := by decide +kernel
theorem d_M_drunk_63 : decode b_M_drunk 63 = .ok (.iload 5, 2) := by decide +kernel
theorem d_M_drunk_65 : decode b_M_drunk 65 = .ok (.invokestatic 171, 3) := by decide +kernel
theorem d_M_drunk_68 : decode b_M_drunk 68 = .ok (.lload_n 3, 1) := by decide +kernel
theorem d_M_drunk_69 : decode b_M_drunk 69 = .ok (.ldc2_w 98, 3) := by decide +kernel
theorem d_M_drunk_72 : decode b_M_drunk 72 = .ok (.lrem, 1) := by decide +kernel
theorem d_M_drunk_73 : decode b_M_drunk 73 = .ok (.l2i, 1) := by decide +kernel
theorem d_M_drunk_74 : decode b_M_drunk 74 = .ok (.invokestatic 134, 3) := by decide +kernel
theorem d_M_drunk_77 : decode b_M_drunk 77 = .ok (.istore 8, 2) := by decide +kernel
theorem d_M_drunk_79 : decode b_M_drunk 79 = .ok (.iload 8, 2) := by decide +kernel
theorem d_M_drunk_81 : decode b_M_drunk 81 = .ok (.bipush 9, 2) := by decide +kernel
theorem d_M_drunk_83 : decode b_M_drunk 83 = .ok (.if_icmp .le 8, 3) := by decide +kernel
theorem d_M_drunk_86 : decode b_M_drunk 86 = .ok (.iload 5, 2) := by decide +kernel
theorem d_M_drunk_88 : decode b_M_drunk 88 = .ok (.goto 13, 3) := by decide +kernel
theorem d_M_drunk_91 : decode b_M_drunk 91 = .ok (.aload_n 0, 1) := by decide +kernel
theorem d_M_drunk_92 : decode b_M_drunk 92 = .ok (.aload_n 0, 1) := by decide +kernel
theorem d_M_drunk_93 : decode b_M_drunk 93 = .ok (.getfield 48, 3) := by decide +kernel
theorem d_M_drunk_96 : decode b_M_drunk 96 = .ok (.iload 8, 2) := by decide +kernel
theorem d_M_drunk_98 : decode b_M_drunk 98 = .ok (.invokevirtual 138, 3) := by decide +kernel
theorem d_M_drunk_101 : decode b_M_drunk 101 = .ok (.istore 5, 2) := by decide +kernel
theorem d_M_drunk_103 : decode b_M_drunk 103 = .ok (.iload 6, 2) := by decide +kernel
theorem d_M_drunk_105 : decode b_M_drunk 105 = .ok (.iload 5, 2) := by decide +kernel
theorem d_M_drunk_107 : decode b_M_drunk 107 = .ok (.ifCond .ne 7, 3) := by decide +kernel
theorem d_M_drunk_110 : decode b_M_drunk 110 = .ok (.iconst 1, 1) := by decide +kernel
theorem d_M_drunk_111 : decode b_M_drunk 111 = .ok (.goto 4, 3) := by decide +kernel
theorem d_M_drunk_114 : decode b_M_drunk 114 = .ok (.iconst 0, 1) := by decide +kernel
theorem d_M_drunk_115 : decode b_M_drunk 115 = .ok (.iadd, 1) := by decide +kernel
theorem d_M_drunk_116 : decode b_M_drunk 116 = .ok (.istore 6, 2) := by decide +kernel
theorem d_M_drunk_118 : decode b_M_drunk 118 = .ok (.iinc 7 1, 3) := by decide +kernel
theorem d_M_drunk_121 : decode b_M_drunk 121 = .ok (.goto (-83), 3) := by decide +kernel
theorem d_M_drunk_124 : decode b_M_drunk 124 = .ok (.aload_n 0, 1) := by decide +kernel
theorem d_M_drunk_125 : decode b_M_drunk 125 = .ok (.iload 6, 2) := by decide +kernel
theorem d_M_drunk_127 : decode b_M_drunk 127 = .ok (.invokevirtual 114, 3) := by decide +kernel
theorem d_M_drunk_130 : decode b_M_drunk 130 = .ok (.istore 7, 2) := by decide +kernel
theorem d_M_drunk_132 : decode b_M_drunk 132 = .ok (.iload 5, 2) := by decide +kernel
theorem d_M_drunk_134 : decode b_M_drunk 134 = .ok (.ireturn, 1) := by decide +kernel
theorem d_M_asked_0 : decode b_M_asked 0 = .ok (.aload_n 0, 1) := by decide +kernel
theorem d_M_asked_1 : decode b_M_asked 1 = .ok (.getfield 92, 3) := by decide +kernel
theorem d_M_asked_4 : decode b_M_asked 4 = .ok (.ireturn, 1) := by decide +kernel
theorem d_M_upper_0 : decode b_M_upper 0 = .ok (.aload_n 0, 1) := by decide +kernel
theorem d_M_upper_1 : decode b_M_upper 1 = .ok (.getfield 95, 3) := by decide +kernel
theorem d_M_upper_4 : decode b_M_upper 4 = .ok (.lreturn, 1) := by decide +kernel
theorem d_M_lower_0 : decode b_M_lower 0 = .ok (.aload_n 0, 1) := by decide +kernel
theorem d_M_lower_1 : decode b_M_lower 1 = .ok (.getfield 38, 3) := by decide +kernel
theorem d_M_lower_4 : decode b_M_lower 4 = .ok (.lreturn, 1) := by decide +kernel
theorem d_M_counted_0 : decode b_M_counted 0 = .ok (.iconst 0, 1) := by decide +kernel
theorem d_M_counted_1 : decode b_M_counted 1 = .ok (.istore_n 2, 1) := by decide +kernel
theorem d_M_counted_2 : decode b_M_counted 2 = .ok (.iconst 0, 1) := by decide +kernel
theorem d_M_counted_3 : decode b_M_counted 3 = .ok (.istore_n 3, 1) := by decide +kernel
theorem d_M_counted_4 : decode b_M_counted 4 = .ok (.iload_n 3, 1) := by decide +kernel
theorem d_M_counted_5 : decode b_M_counted 5 = .ok (.aload_n 0, 1) := by decide +kernel
theorem d_M_counted_6 : decode b_M_counted 6 = .ok (.getfield 22, 3) := by decide +kernel
theorem d_M_counted_9 : decode b_M_counted 9 = .ok (.iconst 0, 1) := by decide +kernel
theorem d_M_counted_10 : decode b_M_counted 10 = .ok (.iaload, 1) := by decide +kernel
theorem d_M_counted_11 : decode b_M_counted 11 = .ok (.if_icmp .ge 86, 3) := by decide +kernel
theorem d_M_counted_14 : decode b_M_counted 14 = .ok (.iload_n 1, 1) := by decide +kernel
theorem d_M_counted_15 : decode b_M_counted 15 = .ok (.iconst 2, 1) := by decide +kernel
theorem d_M_counted_16 : decode b_M_counted 16 = .ok (.if_icmp .ne 18, 3) := by decide +kernel
theorem d_M_counted_19 : decode b_M_counted 19 = .ok (.aload_n 0, 1) := by decide +kernel
theorem d_M_counted_20 : decode b_M_counted 20 = .ok (.getfield 22, 3) := by decide +kernel
theorem d_M_counted_23 : decode b_M_counted 23 = .ok (.iconst 2, 1) := by decide +kernel
theorem d_M_counted_24 : decode b_M_counted 24 = .ok (.iload_n 3, 1) := by decide +kernel
theorem d_M_counted_25 : decode b_M_counted 25 = .ok (.iadd, 1) := by decide +kernel
theorem d_M_counted_26 : decode b_M_counted 26 = .ok (.iaload, 1) := by decide +kernel
theorem d_M_counted_27 : decode b_M_counted 27 = .ok (.iconst 1, 1) := by decide +kernel
theorem d_M_counted_28 : decode b_M_counted 28 = .ok (.invokestatic 198, 3) := by decide +kernel
theorem d_M_counted_31 : decode b_M_counted 31 = .ok (.goto 45, 3) := by decide +kernel
theorem d_M_counted_34 : decode b_M_counted 34 = .ok (.iload_n 1, 1) := by decide +kernel
theorem d_M_counted_35 : decode b_M_counted 35 = .ok (.iconst 3, 1) := by decide +kernel
theorem d_M_counted_36 : decode b_M_counted 36 = .ok (.if_icmp .ne 18, 3) := by decide +kernel
theorem d_M_counted_39 : decode b_M_counted 39 = .ok (.aload_n 0, 1) := by decide +kernel
theorem d_M_counted_40 : decode b_M_counted 40 = .ok (.getfield 22, 3) := by decide +kernel
theorem d_M_counted_43 : decode b_M_counted 43 = .ok (.iconst 2, 1) := by decide +kernel
theorem d_M_counted_44 : decode b_M_counted 44 = .ok (.iload_n 3, 1) := by decide +kernel
theorem d_M_counted_45 : decode b_M_counted 45 = .ok (.iadd, 1) := by decide +kernel
theorem d_M_counted_46 : decode b_M_counted 46 = .ok (.iaload, 1) := by decide +kernel
theorem d_M_counted_47 : decode b_M_counted 47 = .ok (.iconst 2, 1) := by decide +kernel
theorem d_M_counted_48 : decode b_M_counted 48 = .ok (.invokestatic 198, 3) := by decide +kernel
theorem d_M_counted_51 : decode b_M_counted 51 = .ok (.goto 25, 3) := by decide +kernel
theorem d_M_counted_54 : decode b_M_counted 54 = .ok (.iload_n 1, 1) := by decide +kernel
theorem d_M_counted_55 : decode b_M_counted 55 = .ok (.iconst 4, 1) := by decide +kernel
theorem d_M_counted_56 : decode b_M_counted 56 = .ok (.if_icmp .ne 19, 3) := by decide +kernel
theorem d_M_counted_59 : decode b_M_counted 59 = .ok (.aload_n 0, 1) := by decide +kernel
theorem d_M_counted_60 : decode b_M_counted 60 = .ok (.getfield 22, 3) := by decide +kernel
theorem d_M_counted_63 : decode b_M_counted 63 = .ok (.bipush 7, 2) := by decide +kernel
theorem d_M_counted_65 : decode b_M_counted 65 = .ok (.iload_n 3, 1) := by decide +kernel
theorem d_M_counted_66 : decode b_M_counted 66 = .ok (.iadd, 1) := by decide +kernel
theorem d_M_counted_67 : decode b_M_counted 67 = .ok (.iaload, 1) := by decide +kernel
theorem d_M_counted_68 : decode b_M_counted 68 = .ok (.ifCond .ne 7, 3) := by decide +kernel
theorem d_M_counted_71 : decode b_M_counted 71 = .ok (.iconst 1, 1) := by decide +kernel
theorem d_M_counted_72 : decode b_M_counted 72 = .ok (.goto 4, 3) := by decide +kernel
theorem d_M_counted_75 : decode b_M_counted 75 = .ok (.iconst 0, 1) := by decide +kernel
theorem d_M_counted_76 : decode b_M_counted 76 = .ok (.istore 4, 2) := by decide +kernel
theorem d_M_counted_78 : decode b_M_counted 78 = .ok (.iload_n 2, 1) := by decide +kernel
theorem d_M_counted_79 : decode b_M_counted 79 = .ok (.iload 4, 2) := by decide +kernel
theorem d_M_counted_81 : decode b_M_counted 81 = .ok (.ifCond .eq 7, 3) := by decide +kernel
theorem d_M_counted_84 : decode b_M_counted 84 = .ok (.iconst 1, 1) := by decide +kernel
theorem d_M_counted_85 : decode b_M_counted 85 = .ok (.goto 4, 3) := by decide +kernel
theorem d_M_counted_88 : decode b_M_counted 88 = .ok (.iconst 0, 1) := by decide +kernel
theorem d_M_counted_89 : decode b_M_counted 89 = .ok (.iadd, 1) := by decide +kernel
theorem d_M_counted_90 : decode b_M_counted 90 = .ok (.istore_n 2, 1) := by decide +kernel
theorem d_M_counted_91 : decode b_M_counted 91 = .ok (.iinc 3 1, 3) := by decide +kernel
theorem d_M_counted_94 : decode b_M_counted 94 = .ok (.goto (-90), 3) := by decide +kernel
theorem d_M_counted_97 : decode b_M_counted 97 = .ok (.iconst 0, 1) := by decide +kernel
theorem d_M_counted_98 : decode b_M_counted 98 = .ok (.istore_n 3, 1) := by decide +kernel
theorem d_M_counted_99 : decode b_M_counted 99 = .ok (.iload_n 3, 1) := by decide +kernel
theorem d_M_counted_100 : decode b_M_counted 100 = .ok (.iconst 3, 1) := by decide +kernel
theorem d_M_counted_101 : decode b_M_counted 101 = .ok (.if_icmp .ge 31, 3) := by decide +kernel
theorem d_M_counted_104 : decode b_M_counted 104 = .ok (.iload_n 1, 1) := by decide +kernel
theorem d_M_counted_105 : decode b_M_counted 105 = .ok (.iconst 5, 1) := by decide +kernel
theorem d_M_counted_106 : decode b_M_counted 106 = .ok (.if_icmp .ne 26, 3) := by decide +kernel
theorem d_M_counted_109 : decode b_M_counted 109 = .ok (.iload_n 2, 1) := by decide +kernel
theorem d_M_counted_110 : decode b_M_counted 110 = .ok (.aload_n 0, 1) := by decide +kernel
theorem d_M_counted_111 : decode b_M_counted 111 = .ok (.getfield 34, 3) := by decide +kernel
theorem d_M_counted_114 : decode b_M_counted 114 = .ok (.iload_n 3, 1) := by decide +kernel
theorem d_M_counted_115 : decode b_M_counted 115 = .ok (.baload, 1) := by decide +kernel
theorem d_M_counted_116 : decode b_M_counted 116 = .ok (.ifCond .eq 7, 3) := by decide +kernel
theorem d_M_counted_119 : decode b_M_counted 119 = .ok (.iconst 1, 1) := by decide +kernel
theorem d_M_counted_120 : decode b_M_counted 120 = .ok (.goto 4, 3) := by decide +kernel
theorem d_M_counted_123 : decode b_M_counted 123 = .ok (.iconst 0, 1) := by decide +kernel
theorem d_M_counted_124 : decode b_M_counted 124 = .ok (.iadd, 1) := by decide +kernel
theorem d_M_counted_125 : decode b_M_counted 125 = .ok (.istore_n 2, 1) := by decide +kernel
theorem d_M_counted_126 : decode b_M_counted 126 = .ok (.iinc 3 1, 3) := by decide +kernel
theorem d_M_counted_129 : decode b_M_counted 129 = .ok (.goto (-30), 3) := by decide +kernel
theorem d_M_counted_132 : decode b_M_counted 132 = .ok (.iconst 0, 1) := by decide +kernel
theorem d_M_counted_133 : decode b_M_counted 133 = .ok (.istore_n 3, 1) := by decide +kernel
theorem d_M_counted_134 : decode b_M_counted 134 = .ok (.iload_n 3, 1) := by decide +kernel
theorem d_M_counted_135 : decode b_M_counted 135 = .ok (.bipush 6, 2) := by decide +kernel
theorem d_M_counted_137 : decode b_M_counted 137 = .ok (.if_icmp .ge 32, 3) := by decide +kernel
theorem d_M_counted_140 : decode b_M_counted 140 = .ok (.iload_n 1, 1) := by decide +kernel
theorem d_M_counted_141 : decode b_M_counted 141 = .ok (.bipush 6, 2) := by decide +kernel
theorem d_M_counted_143 : decode b_M_counted 143 = .ok (.if_icmp .ne 26, 3) := by decide +kernel
theorem d_M_counted_146 : decode b_M_counted 146 = .ok (.iload_n 2, 1) := by decide +kernel
theorem d_M_counted_147 : decode b_M_counted 147 = .ok (.aload_n 0, 1) := by decide +kernel
theorem d_M_counted_148 : decode b_M_counted 148 = .ok (.getfield 7, 3) := by decide +kernel
theorem d_M_counted_151 : decode b_M_counted 151 = .ok (.iload_n 3, 1) := by decide +kernel
theorem d_M_counted_152 : decode b_M_counted 152 = .ok (.iaload, 1) := by decide +kernel
theorem d_M_counted_153 : decode b_M_counted 153 = .ok (.ifCond .ge 7, 3) := by decide +kernel
theorem d_M_counted_156 : decode b_M_counted 156 = .ok (.iconst 0, 1) := by decide +kernel
theorem d_M_counted_157 : decode b_M_counted 157 = .ok (.goto 4, 3) := by decide +kernel
theorem d_M_counted_160 : decode b_M_counted 160 = .ok (.iconst 1, 1) := by decide +kernel
theorem d_M_counted_161 : decode b_M_counted 161 = .ok (.iadd, 1) := by decide +kernel
theorem d_M_counted_162 : decode b_M_counted 162 = .ok (.istore_n 2, 1) := by decide +kernel
theorem d_M_counted_163 : decode b_M_counted 163 = .ok (.iinc 3 1, 3) := by decide +kernel
theorem d_M_counted_166 : decode b_M_counted 166 = .ok (.goto (-32), 3) := by decide +kernel
theorem d_M_counted_169 : decode b_M_counted 169 = .ok (.iconst 0, 1) := by decide +kernel
theorem d_M_counted_170 : decode b_M_counted 170 = .ok (.istore_n 3, 1) := by decide +kernel
theorem d_M_counted_171 : decode b_M_counted 171 = .ok (.iload_n 3, 1) := by decide +kernel
theorem d_M_counted_172 : decode b_M_counted 172 = .ok (.iconst 4, 1) := by decide +kernel
theorem d_M_counted_173 : decode b_M_counted 173 = .ok (.if_icmp .ge 32, 3) := by decide +kernel
theorem d_M_counted_176 : decode b_M_counted 176 = .ok (.iload_n 1, 1) := by decide +kernel
theorem d_M_counted_177 : decode b_M_counted 177 = .ok (.bipush 7, 2) := by decide +kernel
theorem d_M_counted_179 : decode b_M_counted 179 = .ok (.if_icmp .ne 26, 3) := by decide +kernel
theorem d_M_counted_182 : decode b_M_counted 182 = .ok (.iload_n 2, 1) := by decide +kernel
theorem d_M_counted_183 : decode b_M_counted 183 = .ok (.aload_n 0, 1) := by decide +kernel
theorem d_M_counted_184 : decode b_M_counted 184 = .ok (.getfield 16, 3) := by decide +kernel
theorem d_M_counted_187 : decode b_M_counted 187 = .ok (.iload_n 3, 1) := by decide +kernel
theorem d_M_counted_188 : decode b_M_counted 188 = .ok (.iaload, 1) := by decide +kernel
theorem d_M_counted_189 : decode b_M_counted 189 = .ok (.ifCond .ge 7, 3) := by decide +kernel
theorem d_M_counted_192 : decode b_M_counted 192 = .ok (.iconst 0, 1) := by decide +kernel
theorem d_M_counted_193 : decode b_M_counted 193 = .ok (.goto 4, 3) := by decide +kernel
theorem d_M_counted_196 : decode b_M_counted 196 = .ok (.iconst 1, 1) := by decide +kernel
theorem d_M_counted_197 : decode b_M_counted 197 = .ok (.iadd, 1) := by decide +kernel
theorem d_M_counted_198 : decode b_M_counted 198 = .ok (.istore_n 2, 1) := by decide +kernel
theorem d_M_counted_199 : decode b_M_counted 199 = .ok (.iinc 3 1, 3) := by decide +kernel
theorem d_M_counted_202 : decode b_M_counted 202 = .ok (.goto (-31), 3) := by decide +kernel
theorem d_M_counted_205 : decode b_M_counted 205 = .ok (.iload_n 1, 1) := by decide +kernel
theorem d_M_counted_206 : decode b_M_counted 206 = .ok (.iconst 2, 1) := by decide +kernel
theorem d_M_counted_207 : decode b_M_counted 207 = .ok (.if_icmp .ge 12, 3) := by decide +kernel
theorem d_M_counted_210 : decode b_M_counted 210 = .ok (.aload_n 0, 1) := by decide +kernel
theorem d_M_counted_211 : decode b_M_counted 211 = .ok (.getfield 22, 3) := by decide +kernel
theorem d_M_counted_214 : decode b_M_counted 214 = .ok (.iload_n 1, 1) := by decide +kernel
theorem d_M_counted_215 : decode b_M_counted 215 = .ok (.iaload, 1) := by decide +kernel
theorem d_M_counted_216 : decode b_M_counted 216 = .ok (.goto 4, 3) := by decide +kernel
theorem d_M_counted_219 : decode b_M_counted 219 = .ok (.iload_n 2, 1) := by decide +kernel
theorem d_M_counted_220 : decode b_M_counted 220 = .ok (.ireturn, 1) := by decide +kernel
theorem d_M_count_0 : decode b_M_count 0 = .ok (.iload_n 1, 1) := by decide +kernel
theorem d_M_count_1 : decode b_M_count 1 = .ok (.i2l, 1) := by decide +kernel
theorem d_M_count_2 : decode b_M_count 2 = .ok (.lconst 0, 1) := by decide +kernel
theorem d_M_count_3 : decode b_M_count 3 = .ok (.ldc2_w 291, 3) := by decide +kernel
theorem d_M_count_6 : decode b_M_count 6 = .ok (.invokestatic 100, 3) := by decide +kernel
theorem d_M_count_9 : decode b_M_count 9 = .ok (.ifCond .eq 11, 3) := by decide +kernel
theorem d_M_count_12 : decode b_M_count 12 = .ok (.aload_n 0, 1) := by decide +kernel
theorem d_M_count_13 : decode b_M_count 13 = .ok (.iload_n 1, 1) := by decide +kernel
theorem d_M_count_14 : decode b_M_count 14 = .ok (.invokevirtual 293, 3) := by decide +kernel
theorem d_M_count_17 : decode b_M_count 17 = .ok (.goto 4, 3) := by decide +kernel
theorem d_M_count_20 : decode b_M_count 20 = .ok (.iconst (-1), 1) := by decide +kernel
theorem d_M_count_21 : decode b_M_count 21 = .ok (.ireturn, 1) := by decide +kernel
theorem d_M_finding_0 : decode b_M_finding 0 = .ok (.aload_n 0, 1) := by decide +kernel
theorem d_M_finding_1 : decode b_M_finding 1 = .ok (.getfield 88, 3) := by decide +kernel
theorem d_M_finding_4 : decode b_M_finding 4 = .ok (.ireturn, 1) := by decide +kernel
theorem d_M_findings_0 : decode b_M_findings 0 = .ok (.iload_n 1, 1) := by decide +kernel
theorem d_M_findings_1 : decode b_M_findings 1 = .ok (.i2l, 1) := by decide +kernel
theorem d_M_findings_2 : decode b_M_findings 2 = .ok (.lconst 1, 1) := by decide +kernel
theorem d_M_findings_3 : decode b_M_findings 3 = .ok (.ldc2_w 98, 3) := by decide +kernel
theorem d_M_findings_6 : decode b_M_findings 6 = .ok (.invokestatic 100, 3) := by decide +kernel
theorem d_M_findings_9 : decode b_M_findings 9 = .ok (.ifCond .eq 12, 3) := by decide +kernel
theorem d_M_findings_12 : decode b_M_findings 12 = .ok (.aload_n 0, 1) := by decide +kernel
theorem d_M_findings_13 : decode b_M_findings 13 = .ok (.getfield 42, 3) := by decide +kernel
theorem d_M_findings_16 : decode b_M_findings 16 = .ok (.iload_n 1, 1) := by decide +kernel
theorem d_M_findings_17 : decode b_M_findings 17 = .ok (.iaload, 1) := by decide +kernel
theorem d_M_findings_18 : decode b_M_findings 18 = .ok (.goto 4, 3) := by decide +kernel
theorem d_M_findings_21 : decode b_M_findings 21 = .ok (.iconst (-1), 1) := by decide +kernel
theorem d_M_findings_22 : decode b_M_findings 22 = .ok (.ireturn, 1) := by decide +kernel
theorem d_M_digest_0 : decode b_M_digest 0 = .ok (.ldc2_w 296, 3) := by decide +kernel
theorem d_M_digest_3 : decode b_M_digest 3 = .ok (.lstore_n 1, 1) := by decide +kernel
theorem d_M_digest_4 : decode b_M_digest 4 = .ok (.iconst 0, 1) := by decide +kernel
theorem d_M_digest_5 : decode b_M_digest 5 = .ok (.istore_n 3, 1) := by decide +kernel
theorem d_M_digest_6 : decode b_M_digest 6 = .ok (.iload_n 3, 1) := by decide +kernel
theorem d_M_digest_7 : decode b_M_digest 7 = .ok (.bipush 8, 2) := by decide +kernel
theorem d_M_digest_9 : decode b_M_digest 9 = .ok (.if_icmp .ge 22, 3) := by decide +kernel
theorem d_M_digest_12 : decode b_M_digest 12 = .ok (.ldc2_w 298, 3) := by decide +kernel
theorem d_M_digest_15 : decode b_M_digest 15 = .ok (.lload_n 1, 1) := by decide +kernel
theorem d_M_digest_16 : decode b_M_digest 16 = .ok (.lmul, 1) := by decide +kernel
theorem d_M_digest_17 : decode b_M_digest 17 = .ok (.aload_n 0, 1) := by decide +kernel
theorem d_M_digest_18 : decode b_M_digest 18 = .ok (.iload_n 3, 1) := by decide +kernel
theorem d_M_digest_19 : decode b_M_digest 19 = .ok (.invokevirtual 293, 3) := by decide +kernel
theorem d_M_digest_22 : decode b_M_digest 22 = .ok (.i2l, 1) := by decide +kernel
theorem d_M_digest_23 : decode b_M_digest 23 = .ok (.ladd, 1) := by decide +kernel
theorem d_M_digest_24 : decode b_M_digest 24 = .ok (.lstore_n 1, 1) := by decide +kernel
theorem d_M_digest_25 : decode b_M_digest 25 = .ok (.iinc 3 1, 3) := by decide +kernel
theorem d_M_digest_28 : decode b_M_digest 28 = .ok (.goto (-22), 3) := by decide +kernel
theorem d_M_digest_31 : decode b_M_digest 31 = .ok (.iconst 0, 1) := by decide +kernel
theorem d_M_digest_32 : decode b_M_digest 32 = .ok (.istore_n 3, 1) := by decide +kernel
theorem d_M_digest_33 : decode b_M_digest 33 = .ok (.iload_n 3, 1) := by decide +kernel
theorem d_M_digest_34 : decode b_M_digest 34 = .ok (.aload_n 0, 1) := by decide +kernel
theorem d_M_digest_35 : decode b_M_digest 35 = .ok (.getfield 22, 3) := by decide +kernel
theorem d_M_digest_38 : decode b_M_digest 38 = .ok (.iconst 0, 1) := by decide +kernel
theorem d_M_digest_39 : decode b_M_digest 39 = .ok (.iaload, 1) := by decide +kernel
theorem d_M_digest_40 : decode b_M_digest 40 = .ok (.if_icmp .ge 39, 3) := by decide +kernel
theorem d_M_digest_43 : decode b_M_digest 43 = .ok (.iconst 0, 1) := by decide +kernel
theorem d_M_digest_44 : decode b_M_digest 44 = .ok (.istore 4, 2) := by decide +kernel
theorem d_M_digest_46 : decode b_M_digest 46 = .ok (.iload 4, 2) := by decide +kernel
theorem d_M_digest_48 : decode b_M_digest 48 = .ok (.iconst 5, 1) := by decide +kernel
theorem d_M_digest_49 : decode b_M_digest 49 = .ok (.if_icmp .ge 24, 3) := by decide +kernel
theorem d_M_digest_52 : decode b_M_digest 52 = .ok (.ldc2_w 298, 3) := by decide +kernel
theorem d_M_digest_55 : decode b_M_digest 55 = .ok (.lload_n 1, 1) := by decide +kernel
theorem d_M_digest_56 : decode b_M_digest 56 = .ok (.lmul, 1) := by decide +kernel
theorem d_M_digest_57 : decode b_M_digest 57 = .ok (.aload_n 0, 1) := by decide +kernel
theorem d_M_digest_58 : decode b_M_digest 58 = .ok (.iload_n 3, 1) := by decide +kernel
theorem d_M_digest_59 : decode b_M_digest 59 = .ok (.iload 4, 2) := by decide +kernel
theorem d_M_digest_61 : decode b_M_digest 61 = .ok (.invokevirtual 194, 3) := by decide +kernel
theorem d_M_digest_64 : decode b_M_digest 64 = .ok (.i2l, 1) := by decide +kernel
theorem d_M_digest_65 : decode b_M_digest 65 = .ok (.ladd, 1) := by decide +kernel
theorem d_M_digest_66 : decode b_M_digest 66 = .ok (.lstore_n 1, 1) := by decide +kernel
theorem d_M_digest_67 : decode b_M_digest 67 = .ok (.iinc 4 1, 3) := by decide +kernel
theorem d_M_digest_70 : decode b_M_digest 70 = .ok (.goto (-24), 3) := by decide +kernel
theorem d_M_digest_73 : decode b_M_digest 73 = .ok (.iinc 3 1, 3) := by decide +kernel
theorem d_M_digest_76 : decode b_M_digest 76 = .ok (.goto (-43), 3) := by decide +kernel
theorem d_M_digest_79 : decode b_M_digest 79 = .ok (.iconst 0, 1) := by decide +kernel
theorem d_M_digest_80 : decode b_M_digest 80 = .ok (.istore_n 3, 1) := by decide +kernel
theorem d_M_digest_81 : decode b_M_digest 81 = .ok (.iload_n 3, 1) := by decide +kernel
theorem d_M_digest_82 : decode b_M_digest 82 = .ok (.iconst 3, 1) := by decide +kernel
theorem d_M_digest_83 : decode b_M_digest 83 = .ok (.if_icmp .ge 41, 3) := by decide +kernel
theorem d_M_digest_86 : decode b_M_digest 86 = .ok (.ldc2_w 298, 3) := by decide +kernel
theorem d_M_digest_89 : decode b_M_digest 89 = .ok (.lload_n 1, 1) := by decide +kernel
theorem d_M_digest_90 : decode b_M_digest 90 = .ok (.lmul, 1) := by decide +kernel
theorem d_M_digest_91 : decode b_M_digest 91 = .ok (.aload_n 0, 1) := by decide +kernel
theorem d_M_digest_92 : decode b_M_digest 92 = .ok (.getfield 34, 3) := by decide +kernel
theorem d_M_digest_95 : decode b_M_digest 95 = .ok (.iload_n 3, 1) := by decide +kernel
theorem d_M_digest_96 : decode b_M_digest 96 = .ok (.baload, 1) := by decide +kernel
theorem d_M_digest_97 : decode b_M_digest 97 = .ok (.ifCond .eq 17, 3) := by decide +kernel
theorem d_M_digest_100 : decode b_M_digest 100 = .ok (.aload_n 0, 1) := by decide +kernel
theorem d_M_digest_101 : decode b_M_digest 101 = .ok (.getfield 28, 3) := by decide +kernel
theorem d_M_digest_104 : decode b_M_digest 104 = .ok (.bipush 27, 2) := by decide +kernel
theorem d_M_digest_106 : decode b_M_digest 106 = .ok (.iload_n 3, 1) := by decide +kernel
theorem d_M_digest_107 : decode b_M_digest 107 = .ok (.imul, 1) := by decide +kernel
theorem d_M_digest_108 : decode b_M_digest 108 = .ok (.iconst 1, 1) := by decide +kernel
theorem d_M_digest_109 : decode b_M_digest 109 = .ok (.iadd, 1) := by decide +kernel
theorem d_M_digest_110 : decode b_M_digest 110 = .ok (.iaload, 1) := by decide +kernel
theorem d_M_digest_111 : decode b_M_digest 111 = .ok (.goto 4, 3) := by decide +kernel
theorem d_M_digest_114 : decode b_M_digest 114 = .ok (.iconst (-1), 1) := by decide +kernel
theorem d_M_digest_115 : decode b_M_digest 115 = .ok (.i2l, 1) := by decide +kernel
theorem d_M_digest_116 : decode b_M_digest 116 = .ok (.ladd, 1) := by decide +kernel
theorem d_M_digest_117 : decode b_M_digest 117 = .ok (.lstore_n 1, 1) := by decide +kernel
theorem d_M_digest_118 : decode b_M_digest 118 = .ok (.iinc 3 1, 3) := by decide +kernel
theorem d_M_digest_121 : decode b_M_digest 121 = .ok (.goto (-40), 3) := by decide +kernel
theorem d_M_digest_124 : decode b_M_digest 124 = .ok (.iconst 0, 1) := by decide +kernel
theorem d_M_digest_125 : decode b_M_digest 125 = .ok (.istore_n 3, 1) := by decide +kernel
theorem d_M_digest_126 : decode b_M_digest 126 = .ok (.iload_n 3, 1) := by decide +kernel
theorem d_M_digest_127 : decode b_M_digest 127 = .ok (.bipush 6, 2) := by decide +kernel
theorem d_M_digest_129 : decode b_M_digest 129 = .ok (.if_icmp .ge 63, 3) := by decide +kernel
theorem d_M_digest_132 : decode b_M_digest 132 = .ok (.ldc2_w 298, 3) := by decide +kernel
theorem d_M_digest_135 : decode b_M_digest 135 = .ok (.lload_n 1, 1) := by decide +kernel
theorem d_M_digest_136 : decode b_M_digest 136 = .ok (.lmul, 1) := by decide +kernel
theorem d_M_digest_137 : decode b_M_digest 137 = .ok (.aload_n 0, 1) := by decide +kernel
theorem d_M_digest_138 : decode b_M_digest 138 = .ok (.getfield 7, 3) := by decide +kernel
theorem d_M_digest_141 : decode b_M_digest 141 = .ok (.iload_n 3, 1) := by decide +kernel
theorem d_M_digest_142 : decode b_M_digest 142 = .ok (.iaload, 1) := by decide +kernel
theorem d_M_digest_143 : decode b_M_digest 143 = .ok (.i2l, 1) := by decide +kernel
theorem d_M_digest_144 : decode b_M_digest 144 = .ok (.ladd, 1) := by decide +kernel
theorem d_M_digest_145 : decode b_M_digest 145 = .ok (.lstore_n 1, 1) := by decide +kernel
theorem d_M_digest_146 : decode b_M_digest 146 = .ok (.iconst 0, 1) := by decide +kernel
theorem d_M_digest_147 : decode b_M_digest 147 = .ok (.istore 4, 2) := by decide +kernel
theorem d_M_digest_149 : decode b_M_digest 149 = .ok (.iload 4, 2) := by decide +kernel
theorem d_M_digest_151 : decode b_M_digest 151 = .ok (.aload_n 0, 1) := by decide +kernel
theorem d_M_digest_152 : decode b_M_digest 152 = .ok (.getfield 7, 3) := by decide +kernel
theorem d_M_digest_155 : decode b_M_digest 155 = .ok (.iload_n 3, 1) := by decide +kernel
theorem d_M_digest_156 : decode b_M_digest 156 = .ok (.iaload, 1) := by decide +kernel
theorem d_M_digest_157 : decode b_M_digest 157 = .ok (.if_icmp .ge 29, 3) := by decide +kernel
theorem d_M_digest_160 : decode b_M_digest 160 = .ok (.ldc2_w 298, 3) := by decide +kernel
theorem d_M_digest_163 : decode b_M_digest 163 = .ok (.lload_n 1, 1) := by decide +kernel
theorem d_M_digest_164 : decode b_M_digest 164 = .ok (.lmul, 1) := by decide +kernel
theorem d_M_digest_165 : decode b_M_digest 165 = .ok (.aload_n 0, 1) := by decide +kernel
theorem d_M_digest_166 : decode b_M_digest 166 = .ok (.getfield 13, 3) := by decide +kernel
theorem d_M_digest_169 : decode b_M_digest 169 = .ok (.bipush 40, 2) := by decide +kernel
theorem d_M_digest_171 : decode b_M_digest 171 = .ok (.iload_n 3, 1) := by decide +kernel
theorem d_M_digest_172 : decode b_M_digest 172 = .ok (.imul, 1) := by decide +kernel
theorem d_M_digest_173 : decode b_M_digest 173 = .ok (.iload 4, 2) := by decide +kernel
theorem d_M_digest_175 : decode b_M_digest 175 = .ok (.iadd, 1) := by decide +kernel
theorem d_M_digest_176 : decode b_M_digest 176 = .ok (.iaload, 1) := by decide +kernel
theorem d_M_digest_177 : decode b_M_digest 177 = .ok (.i2l, 1) := by decide +kernel
theorem d_M_digest_178 : decode b_M_digest 178 = .ok (.ladd, 1) := by decide +kernel
theorem d_M_digest_179 : decode b_M_digest 179 = .ok (.lstore_n 1, 1) := by decide +kernel
theorem d_M_digest_180 : decode b_M_digest 180 = .ok (.iinc 4 1, 3) := by decide +kernel
theorem d_M_digest_183 : decode b_M_digest 183 = .ok (.goto (-34), 3) := by decide +kernel
theorem d_M_digest_186 : decode b_M_digest 186 = .ok (.iinc 3 1, 3) := by decide +kernel
theorem d_M_digest_189 : decode b_M_digest 189 = .ok (.goto (-63), 3) := by decide +kernel
theorem d_M_digest_192 : decode b_M_digest 192 = .ok (.iconst 0, 1) := by decide +kernel
theorem d_M_digest_193 : decode b_M_digest 193 = .ok (.istore_n 3, 1) := by decide +kernel
theorem d_M_digest_194 : decode b_M_digest 194 = .ok (.iload_n 3, 1) := by decide +kernel
theorem d_M_digest_195 : decode b_M_digest 195 = .ok (.iconst 4, 1) := by decide +kernel
theorem d_M_digest_196 : decode b_M_digest 196 = .ok (.if_icmp .ge 63, 3) := by decide +kernel
theorem d_M_digest_199 : decode b_M_digest 199 = .ok (.ldc2_w 298, 3) := by decide +kernel
theorem d_M_digest_202 : decode b_M_digest 202 = .ok (.lload_n 1, 1) := by decide +kernel
theorem d_M_digest_203 : decode b_M_digest 203 = .ok (.lmul, 1) := by decide +kernel
theorem d_M_digest_204 : decode b_M_digest 204 = .ok (.aload_n 0, 1) := by decide +kernel
theorem d_M_digest_205 : decode b_M_digest 205 = .ok (.getfield 16, 3) := by decide +kernel
theorem d_M_digest_208 : decode b_M_digest 208 = .ok (.iload_n 3, 1) := by decide +kernel
theorem d_M_digest_209 : decode b_M_digest 209 = .ok (.iaload, 1) := by decide +kernel
theorem d_M_digest_210 : decode b_M_digest 210 = .ok (.i2l, 1) := by decide +kernel
theorem d_M_digest_211 : decode b_M_digest 211 = .ok (.ladd, 1) := by decide +kernel
theorem d_M_digest_212 : decode b_M_digest 212 = .ok (.lstore_n 1, 1) := by decide +kernel
theorem d_M_digest_213 : decode b_M_digest 213 = .ok (.iconst 0, 1) := by decide +kernel
theorem d_M_digest_214 : decode b_M_digest 214 = .ok (.istore 4, 2) := by decide +kernel
theorem d_M_digest_216 : decode b_M_digest 216 = .ok (.iload 4, 2) := by decide +kernel
theorem d_M_digest_218 : decode b_M_digest 218 = .ok (.aload_n 0, 1) := by decide +kernel
theorem d_M_digest_219 : decode b_M_digest 219 = .ok (.getfield 16, 3) := by decide +kernel
theorem d_M_digest_222 : decode b_M_digest 222 = .ok (.iload_n 3, 1) := by decide +kernel
theorem d_M_digest_223 : decode b_M_digest 223 = .ok (.iaload, 1) := by decide +kernel
theorem d_M_digest_224 : decode b_M_digest 224 = .ok (.if_icmp .ge 29, 3) := by decide +kernel
theorem d_M_digest_227 : decode b_M_digest 227 = .ok (.ldc2_w 298, 3) := by decide +kernel
theorem d_M_digest_230 : decode b_M_digest 230 = .ok (.lload_n 1, 1) := by decide +kernel
theorem d_M_digest_231 : decode b_M_digest 231 = .ok (.lmul, 1) := by decide +kernel
theorem d_M_digest_232 : decode b_M_digest 232 = .ok (.aload_n 0, 1) := by decide +kernel
theorem d_M_digest_233 : decode b_M_digest 233 = .ok (.getfield 19, 3) := by decide +kernel
theorem d_M_digest_236 : decode b_M_digest 236 = .ok (.bipush 80, 2) := by decide +kernel
theorem d_M_digest_238 : decode b_M_digest 238 = .ok (.iload_n 3, 1) := by decide +kernel
theorem d_M_digest_239 : decode b_M_digest 239 = .ok (.imul, 1) := by decide +kernel
theorem d_M_digest_240 : decode b_M_digest 240 = .ok (.iload 4, 2) := by decide +kernel
theorem d_M_digest_242 : decode b_M_digest 242 = .ok (.iadd, 1) := by decide +kernel
theorem d_M_digest_243 : decode b_M_digest 243 = .ok (.iaload, 1) := by decide +kernel
theorem d_M_digest_244 : decode b_M_digest 244 = .ok (.i2l, 1) := by decide +kernel
theorem d_M_digest_245 : decode b_M_digest 245 = .ok (.ladd, 1) := by decide +kernel
theorem d_M_digest_246 : decode b_M_digest 246 = .ok (.lstore_n 1, 1) := by decide +kernel
theorem d_M_digest_247 : decode b_M_digest 247 = .ok (.iinc 4 1, 3) := by decide +kernel
theorem d_M_digest_250 : decode b_M_digest 250 = .ok (.goto (-34), 3) := by decide +kernel
theorem d_M_digest_253 : decode b_M_digest 253 = .ok (.iinc 3 1, 3) := by decide +kernel
theorem d_M_digest_256 : decode b_M_digest 256 = .ok (.goto (-62), 3) := by decide +kernel
theorem d_M_digest_259 : decode b_M_digest 259 = .ok (.lload_n 1, 1) := by decide +kernel
theorem d_M_digest_260 : decode b_M_digest 260 = .ok (.lreturn, 1) := by decide +kernel
theorem d_J_bitCount_0 : decode b_J_bitCount 0 = .ok (.iload_n 0, 1) := by decide +kernel
theorem d_J_bitCount_1 : decode b_J_bitCount 1 = .ok (.iload_n 0, 1) := by decide +kernel
theorem d_J_bitCount_2 : decode b_J_bitCount 2 = .ok (.iconst 1, 1) := by decide +kernel
theorem d_J_bitCount_3 : decode b_J_bitCount 3 = .ok (.iushr, 1) := by decide +kernel
theorem d_J_bitCount_4 : decode b_J_bitCount 4 = .ok (.ldc_w 265, 3) := by decide +kernel
theorem d_J_bitCount_7 : decode b_J_bitCount 7 = .ok (.iand, 1) := by decide +kernel
theorem d_J_bitCount_8 : decode b_J_bitCount 8 = .ok (.isub, 1) := by decide +kernel
theorem d_J_bitCount_9 : decode b_J_bitCount 9 = .ok (.istore_n 0, 1) := by decide +kernel
theorem d_J_bitCount_10 : decode b_J_bitCount 10 = .ok (.iload_n 0, 1) := by decide +kernel
theorem d_J_bitCount_11 : decode b_J_bitCount 11 = .ok (.ldc_w 266, 3) := by decide +kernel
theorem d_J_bitCount_14 : decode b_J_bitCount 14 = .ok (.iand, 1) := by decide +kernel
theorem d_J_bitCount_15 : decode b_J_bitCount 15 = .ok (.iload_n 0, 1) := by decide +kernel
theorem d_J_bitCount_16 : decode b_J_bitCount 16 = .ok (.iconst 2, 1) := by decide +kernel
theorem d_J_bitCount_17 : decode b_J_bitCount 17 = .ok (.iushr, 1) := by decide +kernel
theorem d_J_bitCount_18 : decode b_J_bitCount 18 = .ok (.ldc_w 266, 3) := by decide +kernel
theorem d_J_bitCount_21 : decode b_J_bitCount 21 = .ok (.iand, 1) := by decide +kernel
theorem d_J_bitCount_22 : decode b_J_bitCount 22 = .ok (.iadd, 1) := by decide +kernel
theorem d_J_bitCount_23 : decode b_J_bitCount 23 = .ok (.istore_n 0, 1) := by decide +kernel
theorem d_J_bitCount_24 : decode b_J_bitCount 24 = .ok (.iload_n 0, 1) := by decide +kernel
theorem d_J_bitCount_25 : decode b_J_bitCount 25 = .ok (.iload_n 0, 1) := by decide +kernel
theorem d_J_bitCount_26 : decode b_J_bitCount 26 = .ok (.iconst 4, 1) := by decide +kernel
theorem d_J_bitCount_27 : decode b_J_bitCount 27 = .ok (.iushr, 1) := by decide +kernel
theorem d_J_bitCount_28 : decode b_J_bitCount 28 = .ok (.iadd, 1) := by decide +kernel
theorem d_J_bitCount_29 : decode b_J_bitCount 29 = .ok (.ldc_w 267, 3) := by decide +kernel
theorem d_J_bitCount_32 : decode b_J_bitCount 32 = .ok (.iand, 1) := by decide +kernel
theorem d_J_bitCount_33 : decode b_J_bitCount 33 = .ok (.istore_n 0, 1) := by decide +kernel
theorem d_J_bitCount_34 : decode b_J_bitCount 34 = .ok (.iload_n 0, 1) := by decide +kernel
theorem d_J_bitCount_35 : decode b_J_bitCount 35 = .ok (.iload_n 0, 1) := by decide +kernel
theorem d_J_bitCount_36 : decode b_J_bitCount 36 = .ok (.bipush 8, 2) := by decide +kernel
theorem d_J_bitCount_38 : decode b_J_bitCount 38 = .ok (.iushr, 1) := by decide +kernel
theorem d_J_bitCount_39 : decode b_J_bitCount 39 = .ok (.iadd, 1) := by decide +kernel
theorem d_J_bitCount_40 : decode b_J_bitCount 40 = .ok (.istore_n 0, 1) := by decide +kernel
theorem d_J_bitCount_41 : decode b_J_bitCount 41 = .ok (.iload_n 0, 1) := by decide +kernel
theorem d_J_bitCount_42 : decode b_J_bitCount 42 = .ok (.iload_n 0, 1) := by decide +kernel
theorem d_J_bitCount_43 : decode b_J_bitCount 43 = .ok (.bipush 16, 2) := by decide +kernel
theorem d_J_bitCount_45 : decode b_J_bitCount 45 = .ok (.iushr, 1) := by decide +kernel
theorem d_J_bitCount_46 : decode b_J_bitCount 46 = .ok (.iadd, 1) := by decide +kernel
theorem d_J_bitCount_47 : decode b_J_bitCount 47 = .ok (.istore_n 0, 1) := by decide +kernel
theorem d_J_bitCount_48 : decode b_J_bitCount 48 = .ok (.iload_n 0, 1) := by decide +kernel
theorem d_J_bitCount_49 : decode b_J_bitCount 49 = .ok (.bipush 63, 2) := by decide +kernel
theorem d_J_bitCount_51 : decode b_J_bitCount 51 = .ok (.iand, 1) := by decide +kernel
theorem d_J_bitCount_52 : decode b_J_bitCount 52 = .ok (.ireturn, 1) := by decide +kernel
theorem d_J_fillI_0 : decode b_J_fillI 0 = .ok (.iconst 0, 1) := by decide +kernel
theorem d_J_fillI_1 : decode b_J_fillI 1 = .ok (.istore_n 2, 1) := by decide +kernel
theorem d_J_fillI_2 : decode b_J_fillI 2 = .ok (.aload_n 0, 1) := by decide +kernel
theorem d_J_fillI_3 : decode b_J_fillI 3 = .ok (.arraylength, 1) := by decide +kernel
theorem d_J_fillI_4 : decode b_J_fillI 4 = .ok (.istore_n 3, 1) := by decide +kernel
theorem d_J_fillI_5 : decode b_J_fillI 5 = .ok (.iload_n 2, 1) := by decide +kernel
theorem d_J_fillI_6 : decode b_J_fillI 6 = .ok (.iload_n 3, 1) := by decide +kernel
theorem d_J_fillI_7 : decode b_J_fillI 7 = .ok (.if_icmp .ge 13, 3) := by decide +kernel
theorem d_J_fillI_10 : decode b_J_fillI 10 = .ok (.aload_n 0, 1) := by decide +kernel
theorem d_J_fillI_11 : decode b_J_fillI 11 = .ok (.iload_n 2, 1) := by decide +kernel
theorem d_J_fillI_12 : decode b_J_fillI 12 = .ok (.iload_n 1, 1) := by decide +kernel
theorem d_J_fillI_13 : decode b_J_fillI 13 = .ok (.iastore, 1) := by decide +kernel
theorem d_J_fillI_14 : decode b_J_fillI 14 = .ok (.iinc 2 1, 3) := by decide +kernel
theorem d_J_fillI_17 : decode b_J_fillI 17 = .ok (.goto (-12), 3) := by decide +kernel
theorem d_J_fillI_20 : decode b_J_fillI 20 = .ok (.return_, 1) := by decide +kernel
theorem d_J_fillB_0 : decode b_J_fillB 0 = .ok (.iconst 0, 1) := by decide +kernel
theorem d_J_fillB_1 : decode b_J_fillB 1 = .ok (.istore_n 2, 1) := by decide +kernel
theorem d_J_fillB_2 : decode b_J_fillB 2 = .ok (.aload_n 0, 1) := by decide +kernel
theorem d_J_fillB_3 : decode b_J_fillB 3 = .ok (.arraylength, 1) := by decide +kernel
theorem d_J_fillB_4 : decode b_J_fillB 4 = .ok (.istore_n 3, 1) := by decide +kernel
theorem d_J_fillB_5 : decode b_J_fillB 5 = .ok (.iload_n 2, 1) := by decide +kernel
theorem d_J_fillB_6 : decode b_J_fillB 6 = .ok (.iload_n 3, 1) := by decide +kernel
theorem d_J_fillB_7 : decode b_J_fillB 7 = .ok (.if_icmp .ge 13, 3) := by decide +kernel
theorem d_J_fillB_10 : decode b_J_fillB 10 = .ok (.aload_n 0, 1) := by decide +kernel
theorem d_J_fillB_11 : decode b_J_fillB 11 = .ok (.iload_n 2, 1) := by decide +kernel
theorem d_J_fillB_12 : decode b_J_fillB 12 = .ok (.iload_n 1, 1) := by decide +kernel
theorem d_J_fillB_13 : decode b_J_fillB 13 = .ok (.bastore, 1) := by decide +kernel
theorem d_J_fillB_14 : decode b_J_fillB 14 = .ok (.iinc 2 1, 3) := by decide +kernel
theorem d_J_fillB_17 : decode b_J_fillB 17 = .ok (.goto (-12), 3) := by decide +kernel
theorem d_J_fillB_20 : decode b_J_fillB 20 = .ok (.return_, 1) := by decide +kernel
theorem d_L_law_0 : decode code 0 = .ok (.new 7, 3) := by decide +kernel
theorem d_L_law_3 : decode code 3 = .ok (.dup, 1) := by decide +kernel
theorem d_L_law_4 : decode code 4 = .ok (.invokespecial 9, 3) := by decide +kernel
theorem d_L_law_7 : decode code 7 = .ok (.astore_n 1, 1) := by decide +kernel
theorem d_L_law_8 : decode code 8 = .ok (.new 10, 3) := by decide +kernel
theorem d_L_law_11 : decode code 11 = .ok (.dup, 1) := by decide +kernel
theorem d_L_law_12 : decode code 12 = .ok (.invokespecial 12, 3) := by decide +kernel
theorem d_L_law_15 : decode code 15 = .ok (.astore_n 2, 1) := by decide +kernel
theorem d_L_law_16 : decode code 16 = .ok (.iconst 0, 1) := by decide +kernel
theorem d_L_law_17 : decode code 17 = .ok (.istore_n 3, 1) := by decide +kernel
theorem d_L_law_18 : decode code 18 = .ok (.iload_n 3, 1) := by decide +kernel
theorem d_L_law_19 : decode code 19 = .ok (.aload_n 0, 1) := by decide +kernel
theorem d_L_law_20 : decode code 20 = .ok (.arraylength, 1) := by decide +kernel
theorem d_L_law_21 : decode code 21 = .ok (.bipush 6, 2) := by decide +kernel
theorem d_L_law_23 : decode code 23 = .ok (.isub, 1) := by decide +kernel
theorem d_L_law_24 : decode code 24 = .ok (.if_icmp .gt 1707, 3) := by decide +kernel
theorem d_L_law_27 : decode code 27 = .ok (.aload_n 0, 1) := by decide +kernel
theorem d_L_law_28 : decode code 28 = .ok (.iload_n 3, 1) := by decide +kernel
theorem d_L_law_29 : decode code 29 = .ok (.iaload, 1) := by decide +kernel
theorem d_L_law_30 : decode code 30 = .ok (.bipush 63, 2) := by decide +kernel
theorem d_L_law_32 : decode code 32 = .ok (.iand, 1) := by decide +kernel
set_option maxRecDepth 100000 in
theorem d_L_law_33 : decode code 33 = .ok (.tableswitch 1692 0 51 #[223, 256, 299, 332, 355, 418, 441, 474, 517, 540, 563, 596, 629, 662, 695, 718, 741, 764, 787, 810, 843, 866, 899, 922, 945, 978, 1011, 1054, 1097, 1140, 1163, 1186, 1209, 1242, 1265, 1288, 1311, 1334, 1367, 1390, 1423, 1446, 1469, 1502, 1545, 1578, 1591, 1605, 1619, 1642, 1655, 1678], 223) := by decide +kernel
theorem d_L_law_256 : decode code 256 = .ok (.aload_n 1, 1) := by decide +kernel
theorem d_L_law_257 : decode code 257 = .ok (.aload_n 0, 1) := by decide +kernel
theorem d_L_law_258 : decode code 258 = .ok (.iload_n 3, 1) := by decide +kernel
theorem d_L_law_259 : decode code 259 = .ok (.iconst 1, 1) := by decide +kernel
theorem d_L_law_260 : decode code 260 = .ok (.iadd, 1) := by decide +kernel
theorem d_L_law_261 : decode code 261 = .ok (.iaload, 1) := by decide +kernel
theorem d_L_law_262 : decode code 262 = .ok (.aload_n 0, 1) := by decide +kernel
theorem d_L_law_263 : decode code 263 = .ok (.iload_n 3, 1) := by decide +kernel
theorem d_L_law_264 : decode code 264 = .ok (.iconst 2, 1) := by decide +kernel
theorem d_L_law_265 : decode code 265 = .ok (.iadd, 1) := by decide +kernel
theorem d_L_law_266 : decode code 266 = .ok (.iaload, 1) := by decide +kernel
theorem d_L_law_267 : decode code 267 = .ok (.invokevirtual 13, 3) := by decide +kernel
theorem d_L_law_270 : decode code 270 = .ok (.aload_n 2, 1) := by decide +kernel
theorem d_L_law_271 : decode code 271 = .ok (.aload_n 0, 1) := by decide +kernel
theorem d_L_law_272 : decode code 272 = .ok (.iload_n 3, 1) := by decide +kernel
theorem d_L_law_273 : decode code 273 = .ok (.iconst 1, 1) := by decide +kernel
theorem d_L_law_274 : decode code 274 = .ok (.iadd, 1) := by decide +kernel
theorem d_L_law_275 : decode code 275 = .ok (.iaload, 1) := by decide +kernel
theorem d_L_law_276 : decode code 276 = .ok (.aload_n 0, 1) := by decide +kernel
theorem d_L_law_277 : decode code 277 = .ok (.iload_n 3, 1) := by decide +kernel
theorem d_L_law_278 : decode code 278 = .ok (.iconst 2, 1) := by decide +kernel
theorem d_L_law_279 : decode code 279 = .ok (.iadd, 1) := by decide +kernel
theorem d_L_law_280 : decode code 280 = .ok (.iaload, 1) := by decide +kernel
theorem d_L_law_281 : decode code 281 = .ok (.invokevirtual 17, 3) := by decide +kernel
theorem d_L_law_284 : decode code 284 = .ok (.if_icmp .eq 1441, 3) := by decide +kernel
theorem d_L_law_287 : decode code 287 = .ok (.iconst 0, 1) := by decide +kernel
theorem d_L_law_288 : decode code 288 = .ok (.ireturn, 1) := by decide +kernel
theorem d_L_law_289 : decode code 289 = .ok (.aload_n 1, 1) := by decide +kernel
theorem d_L_law_290 : decode code 290 = .ok (.aload_n 0, 1) := by decide +kernel
theorem d_L_law_291 : decode code 291 = .ok (.iload_n 3, 1) := by decide +kernel
theorem d_L_law_292 : decode code 292 = .ok (.iconst 1, 1) := by decide +kernel
theorem d_L_law_293 : decode code 293 = .ok (.iadd, 1) := by decide +kernel
theorem d_L_law_294 : decode code 294 = .ok (.iaload, 1) := by decide +kernel
theorem d_L_law_295 : decode code 295 = .ok (.aload_n 0, 1) := by decide +kernel
theorem d_L_law_296 : decode code 296 = .ok (.iload_n 3, 1) := by decide +kernel
theorem d_L_law_297 : decode code 297 = .ok (.iconst 2, 1) := by decide +kernel
theorem d_L_law_298 : decode code 298 = .ok (.iadd, 1) := by decide +kernel
theorem d_L_law_299 : decode code 299 = .ok (.iaload, 1) := by decide +kernel
theorem d_L_law_300 : decode code 300 = .ok (.aload_n 0, 1) := by decide +kernel
theorem d_L_law_301 : decode code 301 = .ok (.iload_n 3, 1) := by decide +kernel
theorem d_L_law_302 : decode code 302 = .ok (.iconst 3, 1) := by decide +kernel
theorem d_L_law_303 : decode code 303 = .ok (.iadd, 1) := by decide +kernel
theorem d_L_law_304 : decode code 304 = .ok (.iaload, 1) := by decide +kernel
theorem d_L_law_305 : decode code 305 = .ok (.invokevirtual 18, 3) := by decide +kernel
theorem d_L_law_308 : decode code 308 = .ok (.aload_n 2, 1) := by decide +kernel
theorem d_L_law_309 : decode code 309 = .ok (.aload_n 0, 1) := by decide +kernel
theorem d_L_law_310 : decode code 310 = .ok (.iload_n 3, 1) := by decide +kernel
theorem d_L_law_311 : decode code 311 = .ok (.iconst 1, 1) := by decide +kernel
theorem d_L_law_312 : decode code 312 = .ok (.iadd, 1) := by decide +kernel
theorem d_L_law_313 : decode code 313 = .ok (.iaload, 1) := by decide +kernel
theorem d_L_law_314 : decode code 314 = .ok (.aload_n 0, 1) := by decide +kernel
theorem d_L_law_315 : decode code 315 = .ok (.iload_n 3, 1) := by decide +kernel
theorem d_L_law_316 : decode code 316 = .ok (.iconst 2, 1) := by decide +kernel
theorem d_L_law_317 : decode code 317 = .ok (.iadd, 1) := by decide +kernel
theorem d_L_law_318 : decode code 318 = .ok (.iaload, 1) := by decide +kernel
theorem d_L_law_319 : decode code 319 = .ok (.aload_n 0, 1) := by decide +kernel
theorem d_L_law_320 : decode code 320 = .ok (.iload_n 3, 1) := by decide +kernel
theorem d_L_law_321 : decode code 321 = .ok (.iconst 3, 1) := by decide +kernel
theorem d_L_law_322 : decode code 322 = .ok (.iadd, 1) := by decide +kernel
theorem d_L_law_323 : decode code 323 = .ok (.iaload, 1) := by decide +kernel
theorem d_L_law_324 : decode code 324 = .ok (.invokevirtual 22, 3) := by decide +kernel
theorem d_L_law_327 : decode code 327 = .ok (.if_icmp .eq 1398, 3) := by decide +kernel
theorem d_L_law_330 : decode code 330 = .ok (.iconst 0, 1) := by decide +kernel
theorem d_L_law_331 : decode code 331 = .ok (.ireturn, 1) := by decide +kernel
theorem d_L_law_332 : decode code 332 = .ok (.aload_n 1, 1) := by decide +kernel
theorem d_L_law_333 : decode code 333 = .ok (.aload_n 0, 1) := by decide +kernel
theorem d_L_law_334 : decode code 334 = .ok (.iload_n 3, 1) := by decide +kernel
theorem d_L_law_335 : decode code 335 = .ok (.iconst 1, 1) := by decide +kernel
theorem d_L_law_336 : decode code 336 = .ok (.iadd, 1) := by decide +kernel
theorem d_L_law_337 : decode code 337 = .ok (.iaload, 1) := by decide +kernel
theorem d_L_law_338 : decode code 338 = .ok (.aload_n 0, 1) := by decide +kernel
theorem d_L_law_339 : decode code 339 = .ok (.iload_n 3, 1) := by decide +kernel
theorem d_L_law_340 : decode code 340 = .ok (.iconst 2, 1) := by decide +kernel
theorem d_L_law_341 : decode code 341 = .ok (.iadd, 1) := by decide +kernel
theorem d_L_law_342 : decode code 342 = .ok (.iaload, 1) := by decide +kernel
theorem d_L_law_343 : decode code 343 = .ok (.invokevirtual 23, 3) := by decide +kernel
theorem d_L_law_346 : decode code 346 = .ok (.aload_n 2, 1) := by decide +kernel
theorem d_L_law_347 : decode code 347 = .ok (.aload_n 0, 1) := by decide +kernel
theorem d_L_law_348 : decode code 348 = .ok (.iload_n 3, 1) := by decide +kernel
theorem d_L_law_349 : decode code 349 = .ok (.iconst 1, 1) := by decide +kernel
theorem d_L_law_350 : decode code 350 = .ok (.iadd, 1) := by decide +kernel
theorem d_L_law_351 : decode code 351 = .ok (.iaload, 1) := by decide +kernel
theorem d_L_law_352 : decode code 352 = .ok (.aload_n 0, 1) := by decide +kernel
theorem d_L_law_353 : decode code 353 = .ok (.iload_n 3, 1) := by decide +kernel
theorem d_L_law_354 : decode code 354 = .ok (.iconst 2, 1) := by decide +kernel
theorem d_L_law_355 : decode code 355 = .ok (.iadd, 1) := by decide +kernel
theorem d_L_law_356 : decode code 356 = .ok (.iaload, 1) := by decide +kernel
theorem d_L_law_357 : decode code 357 = .ok (.invokevirtual 26, 3) := by decide +kernel
theorem d_L_law_360 : decode code 360 = .ok (.if_icmp .eq 1365, 3) := by decide +kernel
theorem d_L_law_363 : decode code 363 = .ok (.iconst 0, 1) := by decide +kernel
theorem d_L_law_364 : decode code 364 = .ok (.ireturn, 1) := by decide +kernel
theorem d_L_law_365 : decode code 365 = .ok (.aload_n 1, 1) := by decide +kernel
theorem d_L_law_366 : decode code 366 = .ok (.aload_n 0, 1) := by decide +kernel
theorem d_L_law_367 : decode code 367 = .ok (.iload_n 3, 1) := by decide +kernel
theorem d_L_law_368 : decode code 368 = .ok (.iconst 1, 1) := by decide +kernel
theorem d_L_law_369 : decode code 369 = .ok (.iadd, 1) := by decide +kernel
theorem d_L_law_370 : decode code 370 = .ok (.iaload, 1) := by decide +kernel
theorem d_L_law_371 : decode code 371 = .ok (.invokevirtual 27, 3) := by decide +kernel
theorem d_L_law_374 : decode code 374 = .ok (.aload_n 2, 1) := by decide +kernel
theorem d_L_law_375 : decode code 375 = .ok (.aload_n 0, 1) := by decide +kernel
theorem d_L_law_376 : decode code 376 = .ok (.iload_n 3, 1) := by decide +kernel
theorem d_L_law_377 : decode code 377 = .ok (.iconst 1, 1) := by decide +kernel
theorem d_L_law_378 : decode code 378 = .ok (.iadd, 1) := by decide +kernel
theorem d_L_law_379 : decode code 379 = .ok (.iaload, 1) := by decide +kernel
theorem d_L_law_380 : decode code 380 = .ok (.invokevirtual 31, 3) := by decide +kernel
theorem d_L_law_383 : decode code 383 = .ok (.if_icmp .eq 1342, 3) := by decide +kernel
theorem d_L_law_386 : decode code 386 = .ok (.iconst 0, 1) := by decide +kernel
theorem d_L_law_387 : decode code 387 = .ok (.ireturn, 1) := by decide +kernel
theorem d_L_law_388 : decode code 388 = .ok (.aload_n 1, 1) := by decide +kernel
theorem d_L_law_389 : decode code 389 = .ok (.aload_n 0, 1) := by decide +kernel
theorem d_L_law_390 : decode code 390 = .ok (.iload_n 3, 1) := by decide +kernel
theorem d_L_law_391 : decode code 391 = .ok (.iconst 1, 1) := by decide +kernel
theorem d_L_law_392 : decode code 392 = .ok (.iadd, 1) := by decide +kernel
theorem d_L_law_393 : decode code 393 = .ok (.iaload, 1) := by decide +kernel
theorem d_L_law_394 : decode code 394 = .ok (.aload_n 0, 1) := by decide +kernel
theorem d_L_law_395 : decode code 395 = .ok (.iload_n 3, 1) := by decide +kernel
theorem d_L_law_396 : decode code 396 = .ok (.iconst 2, 1) := by decide +kernel
theorem d_L_law_397 : decode code 397 = .ok (.iadd, 1) := by decide +kernel
theorem d_L_law_398 : decode code 398 = .ok (.iaload, 1) := by decide +kernel
theorem d_L_law_399 : decode code 399 = .ok (.aload_n 0, 1) := by decide +kernel
theorem d_L_law_400 : decode code 400 = .ok (.iload_n 3, 1) := by decide +kernel
theorem d_L_law_401 : decode code 401 = .ok (.iconst 3, 1) := by decide +kernel
theorem d_L_law_402 : decode code 402 = .ok (.iadd, 1) := by decide +kernel
theorem d_L_law_403 : decode code 403 = .ok (.iaload, 1) := by decide +kernel
theorem d_L_law_404 : decode code 404 = .ok (.aload_n 0, 1) := by decide +kernel
theorem d_L_law_405 : decode code 405 = .ok (.iload_n 3, 1) := by decide +kernel
theorem d_L_law_406 : decode code 406 = .ok (.iconst 4, 1) := by decide +kernel
theorem d_L_law_407 : decode code 407 = .ok (.iadd, 1) := by decide +kernel
theorem d_L_law_408 : decode code 408 = .ok (.iaload, 1) := by decide +kernel
theorem d_L_law_409 : decode code 409 = .ok (.aload_n 0, 1) := by decide +kernel
theorem d_L_law_410 : decode code 410 = .ok (.iload_n 3, 1) := by decide +kernel
theorem d_L_law_411 : decode code 411 = .ok (.iconst 5, 1) := by decide +kernel
theorem d_L_law_412 : decode code 412 = .ok (.iadd, 1) := by decide +kernel
theorem d_L_law_413 : decode code 413 = .ok (.iaload, 1) := by decide +kernel
theorem d_L_law_414 : decode code 414 = .ok (.invokevirtual 32, 3) := by decide +kernel
theorem d_L_law_417 : decode code 417 = .ok (.aload_n 2, 1) := by decide +kernel
theorem d_L_law_418 : decode code 418 = .ok (.aload_n 0, 1) := by decide +kernel
theorem d_L_law_419 : decode code 419 = .ok (.iload_n 3, 1) := by decide +kernel
theorem d_L_law_420 : decode code 420 = .ok (.iconst 1, 1) := by decide +kernel
theorem d_L_law_421 : decode code 421 = .ok (.iadd, 1) := by decide +kernel
theorem d_L_law_422 : decode code 422 = .ok (.iaload, 1) := by decide +kernel
theorem d_L_law_423 : decode code 423 = .ok (.aload_n 0, 1) := by decide +kernel
theorem d_L_law_424 : decode code 424 = .ok (.iload_n 3, 1) := by decide +kernel
theorem d_L_law_425 : decode code 425 = .ok (.iconst 2, 1) := by decide +kernel
theorem d_L_law_426 : decode code 426 = .ok (.iadd, 1) := by decide +kernel
theorem d_L_law_427 : decode code 427 = .ok (.iaload, 1) := by decide +kernel
theorem d_L_law_428 : decode code 428 = .ok (.aload_n 0, 1) := by decide +kernel
theorem d_L_law_429 : decode code 429 = .ok (.iload_n 3, 1) := by decide +kernel
theorem d_L_law_430 : decode code 430 = .ok (.iconst 3, 1) := by decide +kernel
theorem d_L_law_431 : decode code 431 = .ok (.iadd, 1) := by decide +kernel
theorem d_L_law_432 : decode code 432 = .ok (.iaload, 1) := by decide +kernel
theorem d_L_law_433 : decode code 433 = .ok (.aload_n 0, 1) := by decide +kernel
theorem d_L_law_434 : decode code 434 = .ok (.iload_n 3, 1) := by decide +kernel
theorem d_L_law_435 : decode code 435 = .ok (.iconst 4, 1) := by decide +kernel
theorem d_L_law_436 : decode code 436 = .ok (.iadd, 1) := by decide +kernel
theorem d_L_law_437 : decode code 437 = .ok (.iaload, 1) := by decide +kernel
theorem d_L_law_438 : decode code 438 = .ok (.aload_n 0, 1) := by decide +kernel
theorem d_L_law_439 : decode code 439 = .ok (.iload_n 3, 1) := by decide +kernel
theorem d_L_law_440 : decode code 440 = .ok (.iconst 5, 1) := by decide +kernel
theorem d_L_law_441 : decode code 441 = .ok (.iadd, 1) := by decide +kernel
theorem d_L_law_442 : decode code 442 = .ok (.iaload, 1) := by decide +kernel
theorem d_L_law_443 : decode code 443 = .ok (.invokevirtual 36, 3) := by decide +kernel
theorem d_L_law_446 : decode code 446 = .ok (.if_icmp .eq 1279, 3) := by decide +kernel
theorem d_L_law_449 : decode code 449 = .ok (.iconst 0, 1) := by decide +kernel
theorem d_L_law_450 : decode code 450 = .ok (.ireturn, 1) := by decide +kernel
theorem d_L_law_451 : decode code 451 = .ok (.aload_n 1, 1) := by decide +kernel
theorem d_L_law_452 : decode code 452 = .ok (.aload_n 0, 1) := by decide +kernel
theorem d_L_law_453 : decode code 453 = .ok (.iload_n 3, 1) := by decide +kernel
theorem d_L_law_454 : decode code 454 = .ok (.iconst 1, 1) := by decide +kernel
theorem d_L_law_455 : decode code 455 = .ok (.iadd, 1) := by decide +kernel
theorem d_L_law_456 : decode code 456 = .ok (.iaload, 1) := by decide +kernel
theorem d_L_law_457 : decode code 457 = .ok (.invokevirtual 37, 3) := by decide +kernel
theorem d_L_law_460 : decode code 460 = .ok (.aload_n 2, 1) := by decide +kernel
theorem d_L_law_461 : decode code 461 = .ok (.aload_n 0, 1) := by decide +kernel
theorem d_L_law_462 : decode code 462 = .ok (.iload_n 3, 1) := by decide +kernel
theorem d_L_law_463 : decode code 463 = .ok (.iconst 1, 1) := by decide +kernel
theorem d_L_law_464 : decode code 464 = .ok (.iadd, 1) := by decide +kernel
theorem d_L_law_465 : decode code 465 = .ok (.iaload, 1) := by decide +kernel
theorem d_L_law_466 : decode code 466 = .ok (.invokevirtual 40, 3) := by decide +kernel
theorem d_L_law_469 : decode code 469 = .ok (.if_icmp .eq 1256, 3) := by decide +kernel
theorem d_L_law_472 : decode code 472 = .ok (.iconst 0, 1) := by decide +kernel
theorem d_L_law_473 : decode code 473 = .ok (.ireturn, 1) := by decide +kernel
theorem d_L_law_474 : decode code 474 = .ok (.aload_n 1, 1) := by decide +kernel
theorem d_L_law_475 : decode code 475 = .ok (.aload_n 0, 1) := by decide +kernel
theorem d_L_law_476 : decode code 476 = .ok (.iload_n 3, 1) := by decide +kernel
theorem d_L_law_477 : decode code 477 = .ok (.iconst 1, 1) := by decide +kernel
theorem d_L_law_478 : decode code 478 = .ok (.iadd, 1) := by decide +kernel
theorem d_L_law_479 : decode code 479 = .ok (.iaload, 1) := by decide +kernel
theorem d_L_law_480 : decode code 480 = .ok (.aload_n 0, 1) := by decide +kernel
theorem d_L_law_481 : decode code 481 = .ok (.iload_n 3, 1) := by decide +kernel
theorem d_L_law_482 : decode code 482 = .ok (.iconst 2, 1) := by decide +kernel
theorem d_L_law_483 : decode code 483 = .ok (.iadd, 1) := by decide +kernel
theorem d_L_law_484 : decode code 484 = .ok (.iaload, 1) := by decide +kernel
theorem d_L_law_485 : decode code 485 = .ok (.invokevirtual 41, 3) := by decide +kernel
theorem d_L_law_488 : decode code 488 = .ok (.aload_n 2, 1) := by decide +kernel
theorem d_L_law_489 : decode code 489 = .ok (.aload_n 0, 1) := by decide +kernel
theorem d_L_law_490 : decode code 490 = .ok (.iload_n 3, 1) := by decide +kernel
theorem d_L_law_491 : decode code 491 = .ok (.iconst 1, 1) := by decide +kernel
theorem d_L_law_492 : decode code 492 = .ok (.iadd, 1) := by decide +kernel
theorem d_L_law_493 : decode code 493 = .ok (.iaload, 1) := by decide +kernel
theorem d_L_law_494 : decode code 494 = .ok (.aload_n 0, 1) := by decide +kernel
theorem d_L_law_495 : decode code 495 = .ok (.iload_n 3, 1) := by decide +kernel
theorem d_L_law_496 : decode code 496 = .ok (.iconst 2, 1) := by decide +kernel
theorem d_L_law_497 : decode code 497 = .ok (.iadd, 1) := by decide +kernel
theorem d_L_law_498 : decode code 498 = .ok (.iaload, 1) := by decide +kernel
theorem d_L_law_499 : decode code 499 = .ok (.invokevirtual 44, 3) := by decide +kernel
theorem d_L_law_502 : decode code 502 = .ok (.if_icmp .eq 1223, 3) := by decide +kernel
theorem d_L_law_505 : decode code 505 = .ok (.iconst 0, 1) := by decide +kernel
theorem d_L_law_506 : decode code 506 = .ok (.ireturn, 1) := by decide +kernel
theorem d_L_law_507 : decode code 507 = .ok (.aload_n 1, 1) := by decide +kernel
theorem d_L_law_508 : decode code 508 = .ok (.aload_n 0, 1) := by decide +kernel
theorem d_L_law_509 : decode code 509 = .ok (.iload_n 3, 1) := by decide +kernel
theorem d_L_law_510 : decode code 510 = .ok (.iconst 1, 1) := by decide +kernel
theorem d_L_law_511 : decode code 511 = .ok (.iadd, 1) := by decide +kernel
theorem d_L_law_512 : decode code 512 = .ok (.iaload, 1) := by decide +kernel
theorem d_L_law_513 : decode code 513 = .ok (.aload_n 0, 1) := by decide +kernel
theorem d_L_law_514 : decode code 514 = .ok (.iload_n 3, 1) := by decide +kernel
theorem d_L_law_515 : decode code 515 = .ok (.iconst 2, 1) := by decide +kernel
theorem d_L_law_516 : decode code 516 = .ok (.iadd, 1) := by decide +kernel
theorem d_L_law_517 : decode code 517 = .ok (.iaload, 1) := by decide +kernel
theorem d_L_law_518 : decode code 518 = .ok (.aload_n 0, 1) := by decide +kernel
theorem d_L_law_519 : decode code 519 = .ok (.iload_n 3, 1) := by decide +kernel
theorem d_L_law_520 : decode code 520 = .ok (.iconst 3, 1) := by decide +kernel
theorem d_L_law_521 : decode code 521 = .ok (.iadd, 1) := by decide +kernel
theorem d_L_law_522 : decode code 522 = .ok (.iaload, 1) := by decide +kernel
theorem d_L_law_523 : decode code 523 = .ok (.invokevirtual 45, 3) := by decide +kernel
theorem d_L_law_526 : decode code 526 = .ok (.aload_n 2, 1) := by decide +kernel
theorem d_L_law_527 : decode code 527 = .ok (.aload_n 0, 1) := by decide +kernel
theorem d_L_law_528 : decode code 528 = .ok (.iload_n 3, 1) := by decide +kernel
theorem d_L_law_529 : decode code 529 = .ok (.iconst 1, 1) := by decide +kernel
theorem d_L_law_530 : decode code 530 = .ok (.iadd, 1) := by decide +kernel
theorem d_L_law_531 : decode code 531 = .ok (.iaload, 1) := by decide +kernel
theorem d_L_law_532 : decode code 532 = .ok (.aload_n 0, 1) := by decide +kernel
theorem d_L_law_533 : decode code 533 = .ok (.iload_n 3, 1) := by decide +kernel
theorem d_L_law_534 : decode code 534 = .ok (.iconst 2, 1) := by decide +kernel
theorem d_L_law_535 : decode code 535 = .ok (.iadd, 1) := by decide +kernel
theorem d_L_law_536 : decode code 536 = .ok (.iaload, 1) := by decide +kernel
theorem d_L_law_537 : decode code 537 = .ok (.aload_n 0, 1) := by decide +kernel
theorem d_L_law_538 : decode code 538 = .ok (.iload_n 3, 1) := by decide +kernel
theorem d_L_law_539 : decode code 539 = .ok (.iconst 3, 1) := by decide +kernel
theorem d_L_law_540 : decode code 540 = .ok (.iadd, 1) := by decide +kernel
theorem d_L_law_541 : decode code 541 = .ok (.iaload, 1) := by decide +kernel
theorem d_L_law_542 : decode code 542 = .ok (.invokevirtual 48, 3) := by decide +kernel
theorem d_L_law_545 : decode code 545 = .ok (.if_icmp .eq 1180, 3) := by decide +kernel
theorem d_L_law_548 : decode code 548 = .ok (.iconst 0, 1) := by decide +kernel
theorem d_L_law_549 : decode code 549 = .ok (.ireturn, 1) := by decide +kernel
theorem d_L_law_550 : decode code 550 = .ok (.aload_n 1, 1) := by decide +kernel
theorem d_L_law_551 : decode code 551 = .ok (.aload_n 0, 1) := by decide +kernel
theorem d_L_law_552 : decode code 552 = .ok (.iload_n 3, 1) := by decide +kernel
theorem d_L_law_553 : decode code 553 = .ok (.iconst 1, 1) := by decide +kernel
theorem d_L_law_554 : decode code 554 = .ok (.iadd, 1) := by decide +kernel
theorem d_L_law_555 : decode code 555 = .ok (.iaload, 1) := by decide +kernel
theorem d_L_law_556 : decode code 556 = .ok (.invokevirtual 49, 3) := by decide +kernel
theorem d_L_law_559 : decode code 559 = .ok (.aload_n 2, 1) := by decide +kernel
theorem d_L_law_560 : decode code 560 = .ok (.aload_n 0, 1) := by decide +kernel
theorem d_L_law_561 : decode code 561 = .ok (.iload_n 3, 1) := by decide +kernel
theorem d_L_law_562 : decode code 562 = .ok (.iconst 1, 1) := by decide +kernel
theorem d_L_law_563 : decode code 563 = .ok (.iadd, 1) := by decide +kernel
theorem d_L_law_564 : decode code 564 = .ok (.iaload, 1) := by decide +kernel
theorem d_L_law_565 : decode code 565 = .ok (.invokevirtual 52, 3) := by decide +kernel
theorem d_L_law_568 : decode code 568 = .ok (.if_icmp .eq 1157, 3) := by decide +kernel
theorem d_L_law_571 : decode code 571 = .ok (.iconst 0, 1) := by decide +kernel
theorem d_L_law_572 : decode code 572 = .ok (.ireturn, 1) := by decide +kernel
theorem d_L_law_573 : decode code 573 = .ok (.aload_n 1, 1) := by decide +kernel
theorem d_L_law_574 : decode code 574 = .ok (.aload_n 0, 1) := by decide +kernel
theorem d_L_law_575 : decode code 575 = .ok (.iload_n 3, 1) := by decide +kernel
theorem d_L_law_576 : decode code 576 = .ok (.iconst 1, 1) := by decide +kernel
theorem d_L_law_577 : decode code 577 = .ok (.iadd, 1) := by decide +kernel
theorem d_L_law_578 : decode code 578 = .ok (.iaload, 1) := by decide +kernel
theorem d_L_law_579 : decode code 579 = .ok (.invokevirtual 53, 3) := by decide +kernel
theorem d_L_law_582 : decode code 582 = .ok (.aload_n 2, 1) := by decide +kernel
theorem d_L_law_583 : decode code 583 = .ok (.aload_n 0, 1) := by decide +kernel
theorem d_L_law_584 : decode code 584 = .ok (.iload_n 3, 1) := by decide +kernel
theorem d_L_law_585 : decode code 585 = .ok (.iconst 1, 1) := by decide +kernel
theorem d_L_law_586 : decode code 586 = .ok (.iadd, 1) := by decide +kernel
theorem d_L_law_587 : decode code 587 = .ok (.iaload, 1) := by decide +kernel
theorem d_L_law_588 : decode code 588 = .ok (.invokevirtual 56, 3) := by decide +kernel
theorem d_L_law_591 : decode code 591 = .ok (.if_icmp .eq 1134, 3) := by decide +kernel
theorem d_L_law_594 : decode code 594 = .ok (.iconst 0, 1) := by decide +kernel
theorem d_L_law_595 : decode code 595 = .ok (.ireturn, 1) := by decide +kernel
theorem d_L_law_596 : decode code 596 = .ok (.aload_n 1, 1) := by decide +kernel
theorem d_L_law_597 : decode code 597 = .ok (.aload_n 0, 1) := by decide +kernel
theorem d_L_law_598 : decode code 598 = .ok (.iload_n 3, 1) := by decide +kernel
theorem d_L_law_599 : decode code 599 = .ok (.iconst 1, 1) := by decide +kernel
theorem d_L_law_600 : decode code 600 = .ok (.iadd, 1) := by decide +kernel
theorem d_L_law_601 : decode code 601 = .ok (.iaload, 1) := by decide +kernel
theorem d_L_law_602 : decode code 602 = .ok (.aload_n 0, 1) := by decide +kernel
theorem d_L_law_603 : decode code 603 = .ok (.iload_n 3, 1) := by decide +kernel
theorem d_L_law_604 : decode code 604 = .ok (.iconst 2, 1) := by decide +kernel
theorem d_L_law_605 : decode code 605 = .ok (.iadd, 1) := by decide +kernel
theorem d_L_law_606 : decode code 606 = .ok (.iaload, 1) := by decide +kernel
theorem d_L_law_607 : decode code 607 = .ok (.invokevirtual 57, 3) := by decide +kernel
theorem d_L_law_610 : decode code 610 = .ok (.aload_n 2, 1) := by decide +kernel
theorem d_L_law_611 : decode code 611 = .ok (.aload_n 0, 1) := by decide +kernel
theorem d_L_law_612 : decode code 612 = .ok (.iload_n 3, 1) := by decide +kernel
theorem d_L_law_613 : decode code 613 = .ok (.iconst 1, 1) := by decide +kernel
theorem d_L_law_614 : decode code 614 = .ok (.iadd, 1) := by decide +kernel
theorem d_L_law_615 : decode code 615 = .ok (.iaload, 1) := by decide +kernel
theorem d_L_law_616 : decode code 616 = .ok (.aload_n 0, 1) := by decide +kernel
theorem d_L_law_617 : decode code 617 = .ok (.iload_n 3, 1) := by decide +kernel
theorem d_L_law_618 : decode code 618 = .ok (.iconst 2, 1) := by decide +kernel
theorem d_L_law_619 : decode code 619 = .ok (.iadd, 1) := by decide +kernel
theorem d_L_law_620 : decode code 620 = .ok (.iaload, 1) := by decide +kernel
theorem d_L_law_621 : decode code 621 = .ok (.invokevirtual 60, 3) := by decide +kernel
theorem d_L_law_624 : decode code 624 = .ok (.if_icmp .eq 1101, 3) := by decide +kernel
theorem d_L_law_627 : decode code 627 = .ok (.iconst 0, 1) := by decide +kernel
theorem d_L_law_628 : decode code 628 = .ok (.ireturn, 1) := by decide +kernel
theorem d_L_law_629 : decode code 629 = .ok (.aload_n 1, 1) := by decide +kernel
theorem d_L_law_630 : decode code 630 = .ok (.aload_n 0, 1) := by decide +kernel
theorem d_L_law_631 : decode code 631 = .ok (.iload_n 3, 1) := by decide +kernel
theorem d_L_law_632 : decode code 632 = .ok (.iconst 1, 1) := by decide +kernel
theorem d_L_law_633 : decode code 633 = .ok (.iadd, 1) := by decide +kernel
theorem d_L_law_634 : decode code 634 = .ok (.iaload, 1) := by decide +kernel
theorem d_L_law_635 : decode code 635 = .ok (.aload_n 0, 1) := by decide +kernel
theorem d_L_law_636 : decode code 636 = .ok (.iload_n 3, 1) := by decide +kernel
theorem d_L_law_637 : decode code 637 = .ok (.iconst 2, 1) := by decide +kernel
theorem d_L_law_638 : decode code 638 = .ok (.iadd, 1) := by decide +kernel
theorem d_L_law_639 : decode code 639 = .ok (.iaload, 1) := by decide +kernel
theorem d_L_law_640 : decode code 640 = .ok (.invokevirtual 61, 3) := by decide +kernel
theorem d_L_law_643 : decode code 643 = .ok (.aload_n 2, 1) := by decide +kernel
theorem d_L_law_644 : decode code 644 = .ok (.aload_n 0, 1) := by decide +kernel
theorem d_L_law_645 : decode code 645 = .ok (.iload_n 3, 1) := by decide +kernel
theorem d_L_law_646 : decode code 646 = .ok (.iconst 1, 1) := by decide +kernel
theorem d_L_law_647 : decode code 647 = .ok (.iadd, 1) := by decide +kernel
theorem d_L_law_648 : decode code 648 = .ok (.iaload, 1) := by decide +kernel
theorem d_L_law_649 : decode code 649 = .ok (.aload_n 0, 1) := by decide +kernel
theorem d_L_law_650 : decode code 650 = .ok (.iload_n 3, 1) := by decide +kernel
theorem d_L_law_651 : decode code 651 = .ok (.iconst 2, 1) := by decide +kernel
theorem d_L_law_652 : decode code 652 = .ok (.iadd, 1) := by decide +kernel
theorem d_L_law_653 : decode code 653 = .ok (.iaload, 1) := by decide +kernel
theorem d_L_law_654 : decode code 654 = .ok (.invokevirtual 64, 3) := by decide +kernel
theorem d_L_law_657 : decode code 657 = .ok (.if_icmp .eq 1068, 3) := by decide +kernel
theorem d_L_law_660 : decode code 660 = .ok (.iconst 0, 1) := by decide +kernel
theorem d_L_law_661 : decode code 661 = .ok (.ireturn, 1) := by decide +kernel
theorem d_L_law_662 : decode code 662 = .ok (.aload_n 1, 1) := by decide +kernel
theorem d_L_law_663 : decode code 663 = .ok (.aload_n 0, 1) := by decide +kernel
theorem d_L_law_664 : decode code 664 = .ok (.iload_n 3, 1) := by decide +kernel
theorem d_L_law_665 : decode code 665 = .ok (.iconst 1, 1) := by decide +kernel
theorem d_L_law_666 : decode code 666 = .ok (.iadd, 1) := by decide +kernel
theorem d_L_law_667 : decode code 667 = .ok (.iaload, 1) := by decide +kernel
theorem d_L_law_668 : decode code 668 = .ok (.aload_n 0, 1) := by decide +kernel
theorem d_L_law_669 : decode code 669 = .ok (.iload_n 3, 1) := by decide +kernel
theorem d_L_law_670 : decode code 670 = .ok (.iconst 2, 1) := by decide +kernel
theorem d_L_law_671 : decode code 671 = .ok (.iadd, 1) := by decide +kernel
theorem d_L_law_672 : decode code 672 = .ok (.iaload, 1) := by decide +kernel
theorem d_L_law_673 : decode code 673 = .ok (.invokevirtual 65, 3) := by decide +kernel
theorem d_L_law_676 : decode code 676 = .ok (.aload_n 2, 1) := by decide +kernel
theorem d_L_law_677 : decode code 677 = .ok (.aload_n 0, 1) := by decide +kernel
theorem d_L_law_678 : decode code 678 = .ok (.iload_n 3, 1) := by decide +kernel
theorem d_L_law_679 : decode code 679 = .ok (.iconst 1, 1) := by decide +kernel
theorem d_L_law_680 : decode code 680 = .ok (.iadd, 1) := by decide +kernel
theorem d_L_law_681 : decode code 681 = .ok (.iaload, 1) := by decide +kernel
theorem d_L_law_682 : decode code 682 = .ok (.aload_n 0, 1) := by decide +kernel
theorem d_L_law_683 : decode code 683 = .ok (.iload_n 3, 1) := by decide +kernel
theorem d_L_law_684 : decode code 684 = .ok (.iconst 2, 1) := by decide +kernel
theorem d_L_law_685 : decode code 685 = .ok (.iadd, 1) := by decide +kernel
theorem d_L_law_686 : decode code 686 = .ok (.iaload, 1) := by decide +kernel
theorem d_L_law_687 : decode code 687 = .ok (.invokevirtual 68, 3) := by decide +kernel
theorem d_L_law_690 : decode code 690 = .ok (.if_icmp .eq 1035, 3) := by decide +kernel
theorem d_L_law_693 : decode code 693 = .ok (.iconst 0, 1) := by decide +kernel
theorem d_L_law_694 : decode code 694 = .ok (.ireturn, 1) := by decide +kernel
theorem d_L_law_695 : decode code 695 = .ok (.aload_n 1, 1) := by decide +kernel
theorem d_L_law_696 : decode code 696 = .ok (.aload_n 0, 1) := by decide +kernel
theorem d_L_law_697 : decode code 697 = .ok (.iload_n 3, 1) := by decide +kernel
theorem d_L_law_698 : decode code 698 = .ok (.iconst 1, 1) := by decide +kernel
theorem d_L_law_699 : decode code 699 = .ok (.iadd, 1) := by decide +kernel
theorem d_L_law_700 : decode code 700 = .ok (.iaload, 1) := by decide +kernel
theorem d_L_law_701 : decode code 701 = .ok (.aload_n 0, 1) := by decide +kernel
theorem d_L_law_702 : decode code 702 = .ok (.iload_n 3, 1) := by decide +kernel
theorem d_L_law_703 : decode code 703 = .ok (.iconst 2, 1) := by decide +kernel
theorem d_L_law_704 : decode code 704 = .ok (.iadd, 1) := by decide +kernel
theorem d_L_law_705 : decode code 705 = .ok (.iaload, 1) := by decide +kernel
theorem d_L_law_706 : decode code 706 = .ok (.invokevirtual 69, 3) := by decide +kernel
theorem d_L_law_709 : decode code 709 = .ok (.aload_n 2, 1) := by decide +kernel
theorem d_L_law_710 : decode code 710 = .ok (.aload_n 0, 1) := by decide +kernel
theorem d_L_law_711 : decode code 711 = .ok (.iload_n 3, 1) := by decide +kernel
theorem d_L_law_712 : decode code 712 = .ok (.iconst 1, 1) := by decide +kernel
theorem d_L_law_713 : decode code 713 = .ok (.iadd, 1) := by decide +kernel
theorem d_L_law_714 : decode code 714 = .ok (.iaload, 1) := by decide +kernel
theorem d_L_law_715 : decode code 715 = .ok (.aload_n 0, 1) := by decide +kernel
theorem d_L_law_716 : decode code 716 = .ok (.iload_n 3, 1) := by decide +kernel
theorem d_L_law_717 : decode code 717 = .ok (.iconst 2, 1) := by decide +kernel
theorem d_L_law_718 : decode code 718 = .ok (.iadd, 1) := by decide +kernel
theorem d_L_law_719 : decode code 719 = .ok (.iaload, 1) := by decide +kernel
theorem d_L_law_720 : decode code 720 = .ok (.invokevirtual 72, 3) := by decide +kernel
theorem d_L_law_723 : decode code 723 = .ok (.if_icmp .eq 1002, 3) := by decide +kernel
theorem d_L_law_726 : decode code 726 = .ok (.iconst 0, 1) := by decide +kernel
theorem d_L_law_727 : decode code 727 = .ok (.ireturn, 1) := by decide +kernel
theorem d_L_law_728 : decode code 728 = .ok (.aload_n 1, 1) := by decide +kernel
theorem d_L_law_729 : decode code 729 = .ok (.aload_n 0, 1) := by decide +kernel
theorem d_L_law_730 : decode code 730 = .ok (.iload_n 3, 1) := by decide +kernel
theorem d_L_law_731 : decode code 731 = .ok (.iconst 1, 1) := by decide +kernel
theorem d_L_law_732 : decode code 732 = .ok (.iadd, 1) := by decide +kernel
theorem d_L_law_733 : decode code 733 = .ok (.iaload, 1) := by decide +kernel
theorem d_L_law_734 : decode code 734 = .ok (.invokevirtual 73, 3) := by decide +kernel
theorem d_L_law_737 : decode code 737 = .ok (.aload_n 2, 1) := by decide +kernel
theorem d_L_law_738 : decode code 738 = .ok (.aload_n 0, 1) := by decide +kernel
theorem d_L_law_739 : decode code 739 = .ok (.iload_n 3, 1) := by decide +kernel
theorem d_L_law_740 : decode code 740 = .ok (.iconst 1, 1) := by decide +kernel
theorem d_L_law_741 : decode code 741 = .ok (.iadd, 1) := by decide +kernel
theorem d_L_law_742 : decode code 742 = .ok (.iaload, 1) := by decide +kernel
theorem d_L_law_743 : decode code 743 = .ok (.invokevirtual 76, 3) := by decide +kernel
theorem d_L_law_746 : decode code 746 = .ok (.if_icmp .eq 979, 3) := by decide +kernel
theorem d_L_law_749 : decode code 749 = .ok (.iconst 0, 1) := by decide +kernel
theorem d_L_law_750 : decode code 750 = .ok (.ireturn, 1) := by decide +kernel
theorem d_L_law_751 : decode code 751 = .ok (.aload_n 1, 1) := by decide +kernel
theorem d_L_law_752 : decode code 752 = .ok (.aload_n 0, 1) := by decide +kernel
theorem d_L_law_753 : decode code 753 = .ok (.iload_n 3, 1) := by decide +kernel
theorem d_L_law_754 : decode code 754 = .ok (.iconst 1, 1) := by decide +kernel
theorem d_L_law_755 : decode code 755 = .ok (.iadd, 1) := by decide +kernel
theorem d_L_law_756 : decode code 756 = .ok (.iaload, 1) := by decide +kernel
theorem d_L_law_757 : decode code 757 = .ok (.invokevirtual 77, 3) := by decide +kernel
theorem d_L_law_760 : decode code 760 = .ok (.aload_n 2, 1) := by decide +kernel
theorem d_L_law_761 : decode code 761 = .ok (.aload_n 0, 1) := by decide +kernel
theorem d_L_law_762 : decode code 762 = .ok (.iload_n 3, 1) := by decide +kernel
theorem d_L_law_763 : decode code 763 = .ok (.iconst 1, 1) := by decide +kernel
theorem d_L_law_764 : decode code 764 = .ok (.iadd, 1) := by decide +kernel
theorem d_L_law_765 : decode code 765 = .ok (.iaload, 1) := by decide +kernel
theorem d_L_law_766 : decode code 766 = .ok (.invokevirtual 80, 3) := by decide +kernel
theorem d_L_law_769 : decode code 769 = .ok (.if_icmp .eq 956, 3) := by decide +kernel
theorem d_L_law_772 : decode code 772 = .ok (.iconst 0, 1) := by decide +kernel
theorem d_L_law_773 : decode code 773 = .ok (.ireturn, 1) := by decide +kernel
theorem d_L_law_774 : decode code 774 = .ok (.aload_n 1, 1) := by decide +kernel
theorem d_L_law_775 : decode code 775 = .ok (.aload_n 0, 1) := by decide +kernel
theorem d_L_law_776 : decode code 776 = .ok (.iload_n 3, 1) := by decide +kernel
theorem d_L_law_777 : decode code 777 = .ok (.iconst 1, 1) := by decide +kernel
theorem d_L_law_778 : decode code 778 = .ok (.iadd, 1) := by decide +kernel
theorem d_L_law_779 : decode code 779 = .ok (.iaload, 1) := by decide +kernel
theorem d_L_law_780 : decode code 780 = .ok (.invokevirtual 81, 3) := by decide +kernel
theorem d_L_law_783 : decode code 783 = .ok (.aload_n 2, 1) := by decide +kernel
theorem d_L_law_784 : decode code 784 = .ok (.aload_n 0, 1) := by decide +kernel
theorem d_L_law_785 : decode code 785 = .ok (.iload_n 3, 1) := by decide +kernel
theorem d_L_law_786 : decode code 786 = .ok (.iconst 1, 1) := by decide +kernel
theorem d_L_law_787 : decode code 787 = .ok (.iadd, 1) := by decide +kernel
theorem d_L_law_788 : decode code 788 = .ok (.iaload, 1) := by decide +kernel
theorem d_L_law_789 : decode code 789 = .ok (.invokevirtual 84, 3) := by decide +kernel
theorem d_L_law_792 : decode code 792 = .ok (.if_icmp .eq 933, 3) := by decide +kernel
theorem d_L_law_795 : decode code 795 = .ok (.iconst 0, 1) := by decide +kernel
theorem d_L_law_796 : decode code 796 = .ok (.ireturn, 1) := by decide +kernel
theorem d_L_law_797 : decode code 797 = .ok (.aload_n 1, 1) := by decide +kernel
theorem d_L_law_798 : decode code 798 = .ok (.aload_n 0, 1) := by decide +kernel
theorem d_L_law_799 : decode code 799 = .ok (.iload_n 3, 1) := by decide +kernel
theorem d_L_law_800 : decode code 800 = .ok (.iconst 1, 1) := by decide +kernel
theorem d_L_law_801 : decode code 801 = .ok (.iadd, 1) := by decide +kernel
theorem d_L_law_802 : decode code 802 = .ok (.iaload, 1) := by decide +kernel
theorem d_L_law_803 : decode code 803 = .ok (.invokevirtual 85, 3) := by decide +kernel
theorem d_L_law_806 : decode code 806 = .ok (.aload_n 2, 1) := by decide +kernel
theorem d_L_law_807 : decode code 807 = .ok (.aload_n 0, 1) := by decide +kernel
theorem d_L_law_808 : decode code 808 = .ok (.iload_n 3, 1) := by decide +kernel
theorem d_L_law_809 : decode code 809 = .ok (.iconst 1, 1) := by decide +kernel
theorem d_L_law_810 : decode code 810 = .ok (.iadd, 1) := by decide +kernel
theorem d_L_law_811 : decode code 811 = .ok (.iaload, 1) := by decide +kernel
theorem d_L_law_812 : decode code 812 = .ok (.invokevirtual 88, 3) := by decide +kernel
theorem d_L_law_815 : decode code 815 = .ok (.if_icmp .eq 910, 3) := by decide +kernel
theorem d_L_law_818 : decode code 818 = .ok (.iconst 0, 1) := by decide +kernel
theorem d_L_law_819 : decode code 819 = .ok (.ireturn, 1) := by decide +kernel
theorem d_L_law_820 : decode code 820 = .ok (.aload_n 1, 1) := by decide +kernel
theorem d_L_law_821 : decode code 821 = .ok (.aload_n 0, 1) := by decide +kernel
theorem d_L_law_822 : decode code 822 = .ok (.iload_n 3, 1) := by decide +kernel
theorem d_L_law_823 : decode code 823 = .ok (.iconst 1, 1) := by decide +kernel
theorem d_L_law_824 : decode code 824 = .ok (.iadd, 1) := by decide +kernel
theorem d_L_law_825 : decode code 825 = .ok (.iaload, 1) := by decide +kernel
theorem d_L_law_826 : decode code 826 = .ok (.invokevirtual 89, 3) := by decide +kernel
theorem d_L_law_829 : decode code 829 = .ok (.aload_n 2, 1) := by decide +kernel
theorem d_L_law_830 : decode code 830 = .ok (.aload_n 0, 1) := by decide +kernel
theorem d_L_law_831 : decode code 831 = .ok (.iload_n 3, 1) := by decide +kernel
theorem d_L_law_832 : decode code 832 = .ok (.iconst 1, 1) := by decide +kernel
theorem d_L_law_833 : decode code 833 = .ok (.iadd, 1) := by decide +kernel
theorem d_L_law_834 : decode code 834 = .ok (.iaload, 1) := by decide +kernel
theorem d_L_law_835 : decode code 835 = .ok (.invokevirtual 92, 3) := by decide +kernel
theorem d_L_law_838 : decode code 838 = .ok (.if_icmp .eq 887, 3) := by decide +kernel
theorem d_L_law_841 : decode code 841 = .ok (.iconst 0, 1) := by decide +kernel
theorem d_L_law_842 : decode code 842 = .ok (.ireturn, 1) := by decide +kernel
theorem d_L_law_843 : decode code 843 = .ok (.aload_n 1, 1) := by decide +kernel
theorem d_L_law_844 : decode code 844 = .ok (.aload_n 0, 1) := by decide +kernel
theorem d_L_law_845 : decode code 845 = .ok (.iload_n 3, 1) := by decide +kernel
theorem d_L_law_846 : decode code 846 = .ok (.iconst 1, 1) := by decide +kernel
theorem d_L_law_847 : decode code 847 = .ok (.iadd, 1) := by decide +kernel
theorem d_L_law_848 : decode code 848 = .ok (.iaload, 1) := by decide +kernel
theorem d_L_law_849 : decode code 849 = .ok (.aload_n 0, 1) := by decide +kernel
theorem d_L_law_850 : decode code 850 = .ok (.iload_n 3, 1) := by decide +kernel
theorem d_L_law_851 : decode code 851 = .ok (.iconst 2, 1) := by decide +kernel
theorem d_L_law_852 : decode code 852 = .ok (.iadd, 1) := by decide +kernel
theorem d_L_law_853 : decode code 853 = .ok (.iaload, 1) := by decide +kernel
theorem d_L_law_854 : decode code 854 = .ok (.invokevirtual 93, 3) := by decide +kernel
theorem d_L_law_857 : decode code 857 = .ok (.aload_n 2, 1) := by decide +kernel
theorem d_L_law_858 : decode code 858 = .ok (.aload_n 0, 1) := by decide +kernel
theorem d_L_law_859 : decode code 859 = .ok (.iload_n 3, 1) := by decide +kernel
theorem d_L_law_860 : decode code 860 = .ok (.iconst 1, 1) := by decide +kernel
theorem d_L_law_861 : decode code 861 = .ok (.iadd, 1) := by decide +kernel
theorem d_L_law_862 : decode code 862 = .ok (.iaload, 1) := by decide +kernel
theorem d_L_law_863 : decode code 863 = .ok (.aload_n 0, 1) := by decide +kernel
theorem d_L_law_864 : decode code 864 = .ok (.iload_n 3, 1) := by decide +kernel
theorem d_L_law_865 : decode code 865 = .ok (.iconst 2, 1) := by decide +kernel
theorem d_L_law_866 : decode code 866 = .ok (.iadd, 1) := by decide +kernel
theorem d_L_law_867 : decode code 867 = .ok (.iaload, 1) := by decide +kernel
theorem d_L_law_868 : decode code 868 = .ok (.invokevirtual 96, 3) := by decide +kernel
theorem d_L_law_871 : decode code 871 = .ok (.if_icmp .eq 854, 3) := by decide +kernel
theorem d_L_law_874 : decode code 874 = .ok (.iconst 0, 1) := by decide +kernel
theorem d_L_law_875 : decode code 875 = .ok (.ireturn, 1) := by decide +kernel
theorem d_L_law_876 : decode code 876 = .ok (.aload_n 1, 1) := by decide +kernel
theorem d_L_law_877 : decode code 877 = .ok (.aload_n 0, 1) := by decide +kernel
theorem d_L_law_878 : decode code 878 = .ok (.iload_n 3, 1) := by decide +kernel
theorem d_L_law_879 : decode code 879 = .ok (.iconst 1, 1) := by decide +kernel
theorem d_L_law_880 : decode code 880 = .ok (.iadd, 1) := by decide +kernel
theorem d_L_law_881 : decode code 881 = .ok (.iaload, 1) := by decide +kernel
theorem d_L_law_882 : decode code 882 = .ok (.invokevirtual 97, 3) := by decide +kernel
theorem d_L_law_885 : decode code 885 = .ok (.aload_n 2, 1) := by decide +kernel
theorem d_L_law_886 : decode code 886 = .ok (.aload_n 0, 1) := by decide +kernel
theorem d_L_law_887 : decode code 887 = .ok (.iload_n 3, 1) := by decide +kernel
theorem d_L_law_888 : decode code 888 = .ok (.iconst 1, 1) := by decide +kernel
theorem d_L_law_889 : decode code 889 = .ok (.iadd, 1) := by decide +kernel
theorem d_L_law_890 : decode code 890 = .ok (.iaload, 1) := by decide +kernel
theorem d_L_law_891 : decode code 891 = .ok (.invokevirtual 100, 3) := by decide +kernel
theorem d_L_law_894 : decode code 894 = .ok (.if_icmp .eq 831, 3) := by decide +kernel
theorem d_L_law_897 : decode code 897 = .ok (.iconst 0, 1) := by decide +kernel
theorem d_L_law_898 : decode code 898 = .ok (.ireturn, 1) := by decide +kernel
theorem d_L_law_899 : decode code 899 = .ok (.aload_n 1, 1) := by decide +kernel
theorem d_L_law_900 : decode code 900 = .ok (.aload_n 0, 1) := by decide +kernel
theorem d_L_law_901 : decode code 901 = .ok (.iload_n 3, 1) := by decide +kernel
theorem d_L_law_902 : decode code 902 = .ok (.iconst 1, 1) := by decide +kernel
theorem d_L_law_903 : decode code 903 = .ok (.iadd, 1) := by decide +kernel
theorem d_L_law_904 : decode code 904 = .ok (.iaload, 1) := by decide +kernel
theorem d_L_law_905 : decode code 905 = .ok (.aload_n 0, 1) := by decide +kernel
theorem d_L_law_906 : decode code 906 = .ok (.iload_n 3, 1) := by decide +kernel
theorem d_L_law_907 : decode code 907 = .ok (.iconst 2, 1) := by decide +kernel
theorem d_L_law_908 : decode code 908 = .ok (.iadd, 1) := by decide +kernel
theorem d_L_law_909 : decode code 909 = .ok (.iaload, 1) := by decide +kernel
theorem d_L_law_910 : decode code 910 = .ok (.invokevirtual 101, 3) := by decide +kernel
theorem d_L_law_913 : decode code 913 = .ok (.aload_n 2, 1) := by decide +kernel
theorem d_L_law_914 : decode code 914 = .ok (.aload_n 0, 1) := by decide +kernel
theorem d_L_law_915 : decode code 915 = .ok (.iload_n 3, 1) := by decide +kernel
theorem d_L_law_916 : decode code 916 = .ok (.iconst 1, 1) := by decide +kernel
theorem d_L_law_917 : decode code 917 = .ok (.iadd, 1) := by decide +kernel
theorem d_L_law_918 : decode code 918 = .ok (.iaload, 1) := by decide +kernel
theorem d_L_law_919 : decode code 919 = .ok (.aload_n 0, 1) := by decide +kernel
theorem d_L_law_920 : decode code 920 = .ok (.iload_n 3, 1) := by decide +kernel
theorem d_L_law_921 : decode code 921 = .ok (.iconst 2, 1) := by decide +kernel
theorem d_L_law_922 : decode code 922 = .ok (.iadd, 1) := by decide +kernel
theorem d_L_law_923 : decode code 923 = .ok (.iaload, 1) := by decide +kernel
theorem d_L_law_924 : decode code 924 = .ok (.invokevirtual 104, 3) := by decide +kernel
theorem d_L_law_927 : decode code 927 = .ok (.if_icmp .eq 798, 3) := by decide +kernel
theorem d_L_law_930 : decode code 930 = .ok (.iconst 0, 1) := by decide +kernel
theorem d_L_law_931 : decode code 931 = .ok (.ireturn, 1) := by decide +kernel
theorem d_L_law_932 : decode code 932 = .ok (.aload_n 1, 1) := by decide +kernel
theorem d_L_law_933 : decode code 933 = .ok (.aload_n 0, 1) := by decide +kernel
theorem d_L_law_934 : decode code 934 = .ok (.iload_n 3, 1) := by decide +kernel
theorem d_L_law_935 : decode code 935 = .ok (.iconst 1, 1) := by decide +kernel
theorem d_L_law_936 : decode code 936 = .ok (.iadd, 1) := by decide +kernel
theorem d_L_law_937 : decode code 937 = .ok (.iaload, 1) := by decide +kernel
theorem d_L_law_938 : decode code 938 = .ok (.invokevirtual 105, 3) := by decide +kernel
theorem d_L_law_941 : decode code 941 = .ok (.aload_n 2, 1) := by decide +kernel
theorem d_L_law_942 : decode code 942 = .ok (.aload_n 0, 1) := by decide +kernel
theorem d_L_law_943 : decode code 943 = .ok (.iload_n 3, 1) := by decide +kernel
theorem d_L_law_944 : decode code 944 = .ok (.iconst 1, 1) := by decide +kernel
theorem d_L_law_945 : decode code 945 = .ok (.iadd, 1) := by decide +kernel
theorem d_L_law_946 : decode code 946 = .ok (.iaload, 1) := by decide +kernel
theorem d_L_law_947 : decode code 947 = .ok (.invokevirtual 108, 3) := by decide +kernel
theorem d_L_law_950 : decode code 950 = .ok (.if_icmp .eq 775, 3) := by decide +kernel
theorem d_L_law_953 : decode code 953 = .ok (.iconst 0, 1) := by decide +kernel
theorem d_L_law_954 : decode code 954 = .ok (.ireturn, 1) := by decide +kernel
theorem d_L_law_955 : decode code 955 = .ok (.aload_n 1, 1) := by decide +kernel
theorem d_L_law_956 : decode code 956 = .ok (.aload_n 0, 1) := by decide +kernel
theorem d_L_law_957 : decode code 957 = .ok (.iload_n 3, 1) := by decide +kernel
theorem d_L_law_958 : decode code 958 = .ok (.iconst 1, 1) := by decide +kernel
theorem d_L_law_959 : decode code 959 = .ok (.iadd, 1) := by decide +kernel
theorem d_L_law_960 : decode code 960 = .ok (.iaload, 1) := by decide +kernel
theorem d_L_law_961 : decode code 961 = .ok (.invokevirtual 109, 3) := by decide +kernel
theorem d_L_law_964 : decode code 964 = .ok (.aload_n 2, 1) := by decide +kernel
theorem d_L_law_965 : decode code 965 = .ok (.aload_n 0, 1) := by decide +kernel
theorem d_L_law_966 : decode code 966 = .ok (.iload_n 3, 1) := by decide +kernel
theorem d_L_law_967 : decode code 967 = .ok (.iconst 1, 1) := by decide +kernel
theorem d_L_law_968 : decode code 968 = .ok (.iadd, 1) := by decide +kernel
theorem d_L_law_969 : decode code 969 = .ok (.iaload, 1) := by decide +kernel
theorem d_L_law_970 : decode code 970 = .ok (.invokevirtual 112, 3) := by decide +kernel
theorem d_L_law_973 : decode code 973 = .ok (.if_icmp .eq 752, 3) := by decide +kernel
theorem d_L_law_976 : decode code 976 = .ok (.iconst 0, 1) := by decide +kernel
theorem d_L_law_977 : decode code 977 = .ok (.ireturn, 1) := by decide +kernel
theorem d_L_law_978 : decode code 978 = .ok (.aload_n 1, 1) := by decide +kernel
theorem d_L_law_979 : decode code 979 = .ok (.aload_n 0, 1) := by decide +kernel
theorem d_L_law_980 : decode code 980 = .ok (.iload_n 3, 1) := by decide +kernel
theorem d_L_law_981 : decode code 981 = .ok (.iconst 1, 1) := by decide +kernel
theorem d_L_law_982 : decode code 982 = .ok (.iadd, 1) := by decide +kernel
theorem d_L_law_983 : decode code 983 = .ok (.iaload, 1) := by decide +kernel
theorem d_L_law_984 : decode code 984 = .ok (.aload_n 0, 1) := by decide +kernel
theorem d_L_law_985 : decode code 985 = .ok (.iload_n 3, 1) := by decide +kernel
theorem d_L_law_986 : decode code 986 = .ok (.iconst 2, 1) := by decide +kernel
theorem d_L_law_987 : decode code 987 = .ok (.iadd, 1) := by decide +kernel
theorem d_L_law_988 : decode code 988 = .ok (.iaload, 1) := by decide +kernel
theorem d_L_law_989 : decode code 989 = .ok (.invokevirtual 113, 3) := by decide +kernel
theorem d_L_law_992 : decode code 992 = .ok (.aload_n 2, 1) := by decide +kernel
theorem d_L_law_993 : decode code 993 = .ok (.aload_n 0, 1) := by decide +kernel
theorem d_L_law_994 : decode code 994 = .ok (.iload_n 3, 1) := by decide +kernel
theorem d_L_law_995 : decode code 995 = .ok (.iconst 1, 1) := by decide +kernel
theorem d_L_law_996 : decode code 996 = .ok (.iadd, 1) := by decide +kernel
theorem d_L_law_997 : decode code 997 = .ok (.iaload, 1) := by decide +kernel
theorem d_L_law_998 : decode code 998 = .ok (.aload_n 0, 1) := by decide +kernel
theorem d_L_law_999 : decode code 999 = .ok (.iload_n 3, 1) := by decide +kernel
theorem d_L_law_1000 : decode code 1000 = .ok (.iconst 2, 1) := by decide +kernel
theorem d_L_law_1001 : decode code 1001 = .ok (.iadd, 1) := by decide +kernel
theorem d_L_law_1002 : decode code 1002 = .ok (.iaload, 1) := by decide +kernel
theorem d_L_law_1003 : decode code 1003 = .ok (.invokevirtual 116, 3) := by decide +kernel
theorem d_L_law_1006 : decode code 1006 = .ok (.if_icmp .eq 719, 3) := by decide +kernel
theorem d_L_law_1009 : decode code 1009 = .ok (.iconst 0, 1) := by decide +kernel
theorem d_L_law_1010 : decode code 1010 = .ok (.ireturn, 1) := by decide +kernel
theorem d_L_law_1011 : decode code 1011 = .ok (.aload_n 1, 1) := by decide +kernel
theorem d_L_law_1012 : decode code 1012 = .ok (.aload_n 0, 1) := by decide +kernel
theorem d_L_law_1013 : decode code 1013 = .ok (.iload_n 3, 1) := by decide +kernel
theorem d_L_law_1014 : decode code 1014 = .ok (.iconst 1, 1) := by decide +kernel
theorem d_L_law_1015 : decode code 1015 = .ok (.iadd, 1) := by decide +kernel
theorem d_L_law_1016 : decode code 1016 = .ok (.iaload, 1) := by decide +kernel
theorem d_L_law_1017 : decode code 1017 = .ok (.aload_n 0, 1) := by decide +kernel
theorem d_L_law_1018 : decode code 1018 = .ok (.iload_n 3, 1) := by decide +kernel
theorem d_L_law_1019 : decode code 1019 = .ok (.iconst 2, 1) := by decide +kernel
theorem d_L_law_1020 : decode code 1020 = .ok (.iadd, 1) := by decide +kernel
theorem d_L_law_1021 : decode code 1021 = .ok (.iaload, 1) := by decide +kernel
theorem d_L_law_1022 : decode code 1022 = .ok (.invokevirtual 117, 3) := by decide +kernel
theorem d_L_law_1025 : decode code 1025 = .ok (.aload_n 2, 1) := by decide +kernel
theorem d_L_law_1026 : decode code 1026 = .ok (.aload_n 0, 1) := by decide +kernel
theorem d_L_law_1027 : decode code 1027 = .ok (.iload_n 3, 1) := by decide +kernel
theorem d_L_law_1028 : decode code 1028 = .ok (.iconst 1, 1) := by decide +kernel
theorem d_L_law_1029 : decode code 1029 = .ok (.iadd, 1) := by decide +kernel
theorem d_L_law_1030 : decode code 1030 = .ok (.iaload, 1) := by decide +kernel
theorem d_L_law_1031 : decode code 1031 = .ok (.aload_n 0, 1) := by decide +kernel
theorem d_L_law_1032 : decode code 1032 = .ok (.iload_n 3, 1) := by decide +kernel
theorem d_L_law_1033 : decode code 1033 = .ok (.iconst 2, 1) := by decide +kernel
theorem d_L_law_1034 : decode code 1034 = .ok (.iadd, 1) := by decide +kernel
theorem d_L_law_1035 : decode code 1035 = .ok (.iaload, 1) := by decide +kernel
theorem d_L_law_1036 : decode code 1036 = .ok (.invokevirtual 120, 3) := by decide +kernel
theorem d_L_law_1039 : decode code 1039 = .ok (.if_icmp .eq 686, 3) := by decide +kernel
theorem d_L_law_1042 : decode code 1042 = .ok (.iconst 0, 1) := by decide +kernel
theorem d_L_law_1043 : decode code 1043 = .ok (.ireturn, 1) := by decide +kernel
theorem d_L_law_1044 : decode code 1044 = .ok (.aload_n 1, 1) := by decide +kernel
theorem d_L_law_1045 : decode code 1045 = .ok (.aload_n 0, 1) := by decide +kernel
theorem d_L_law_1046 : decode code 1046 = .ok (.iload_n 3, 1) := by decide +kernel
theorem d_L_law_1047 : decode code 1047 = .ok (.iconst 1, 1) := by decide +kernel
theorem d_L_law_1048 : decode code 1048 = .ok (.iadd, 1) := by decide +kernel
theorem d_L_law_1049 : decode code 1049 = .ok (.iaload, 1) := by decide +kernel
theorem d_L_law_1050 : decode code 1050 = .ok (.aload_n 0, 1) := by decide +kernel
theorem d_L_law_1051 : decode code 1051 = .ok (.iload_n 3, 1) := by decide +kernel
theorem d_L_law_1052 : decode code 1052 = .ok (.iconst 2, 1) := by decide +kernel
theorem d_L_law_1053 : decode code 1053 = .ok (.iadd, 1) := by decide +kernel
theorem d_L_law_1054 : decode code 1054 = .ok (.iaload, 1) := by decide +kernel
theorem d_L_law_1055 : decode code 1055 = .ok (.aload_n 0, 1) := by decide +kernel
theorem d_L_law_1056 : decode code 1056 = .ok (.iload_n 3, 1) := by decide +kernel
theorem d_L_law_1057 : decode code 1057 = .ok (.iconst 3, 1) := by decide +kernel
theorem d_L_law_1058 : decode code 1058 = .ok (.iadd, 1) := by decide +kernel
theorem d_L_law_1059 : decode code 1059 = .ok (.iaload, 1) := by decide +kernel
theorem d_L_law_1060 : decode code 1060 = .ok (.invokevirtual 121, 3) := by decide +kernel
theorem d_L_law_1063 : decode code 1063 = .ok (.aload_n 2, 1) := by decide +kernel
theorem d_L_law_1064 : decode code 1064 = .ok (.aload_n 0, 1) := by decide +kernel
theorem d_L_law_1065 : decode code 1065 = .ok (.iload_n 3, 1) := by decide +kernel
theorem d_L_law_1066 : decode code 1066 = .ok (.iconst 1, 1) := by decide +kernel
theorem d_L_law_1067 : decode code 1067 = .ok (.iadd, 1) := by decide +kernel
theorem d_L_law_1068 : decode code 1068 = .ok (.iaload, 1) := by decide +kernel
theorem d_L_law_1069 : decode code 1069 = .ok (.aload_n 0, 1) := by decide +kernel
theorem d_L_law_1070 : decode code 1070 = .ok (.iload_n 3, 1) := by decide +kernel
theorem d_L_law_1071 : decode code 1071 = .ok (.iconst 2, 1) := by decide +kernel
theorem d_L_law_1072 : decode code 1072 = .ok (.iadd, 1) := by decide +kernel
theorem d_L_law_1073 : decode code 1073 = .ok (.iaload, 1) := by decide +kernel
theorem d_L_law_1074 : decode code 1074 = .ok (.aload_n 0, 1) := by decide +kernel
theorem d_L_law_1075 : decode code 1075 = .ok (.iload_n 3, 1) := by decide +kernel
theorem d_L_law_1076 : decode code 1076 = .ok (.iconst 3, 1) := by decide +kernel
theorem d_L_law_1077 : decode code 1077 = .ok (.iadd, 1) := by decide +kernel
theorem d_L_law_1078 : decode code 1078 = .ok (.iaload, 1) := by decide +kernel
theorem d_L_law_1079 : decode code 1079 = .ok (.invokevirtual 124, 3) := by decide +kernel
theorem d_L_law_1082 : decode code 1082 = .ok (.if_icmp .eq 643, 3) := by decide +kernel
theorem d_L_law_1085 : decode code 1085 = .ok (.iconst 0, 1) := by decide +kernel
theorem d_L_law_1086 : decode code 1086 = .ok (.ireturn, 1) := by decide +kernel
theorem d_L_law_1087 : decode code 1087 = .ok (.aload_n 1, 1) := by decide +kernel
theorem d_L_law_1088 : decode code 1088 = .ok (.aload_n 0, 1) := by decide +kernel
theorem d_L_law_1089 : decode code 1089 = .ok (.iload_n 3, 1) := by decide +kernel
theorem d_L_law_1090 : decode code 1090 = .ok (.iconst 1, 1) := by decide +kernel
theorem d_L_law_1091 : decode code 1091 = .ok (.iadd, 1) := by decide +kernel
theorem d_L_law_1092 : decode code 1092 = .ok (.iaload, 1) := by decide +kernel
theorem d_L_law_1093 : decode code 1093 = .ok (.aload_n 0, 1) := by decide +kernel
theorem d_L_law_1094 : decode code 1094 = .ok (.iload_n 3, 1) := by decide +kernel
theorem d_L_law_1095 : decode code 1095 = .ok (.iconst 2, 1) := by decide +kernel
theorem d_L_law_1096 : decode code 1096 = .ok (.iadd, 1) := by decide +kernel
theorem d_L_law_1097 : decode code 1097 = .ok (.iaload, 1) := by decide +kernel
theorem d_L_law_1098 : decode code 1098 = .ok (.aload_n 0, 1) := by decide +kernel
theorem d_L_law_1099 : decode code 1099 = .ok (.iload_n 3, 1) := by decide +kernel
theorem d_L_law_1100 : decode code 1100 = .ok (.iconst 3, 1) := by decide +kernel
theorem d_L_law_1101 : decode code 1101 = .ok (.iadd, 1) := by decide +kernel
theorem d_L_law_1102 : decode code 1102 = .ok (.iaload, 1) := by decide +kernel
theorem d_L_law_1103 : decode code 1103 = .ok (.invokevirtual 125, 3) := by decide +kernel
theorem d_L_law_1106 : decode code 1106 = .ok (.aload_n 2, 1) := by decide +kernel
theorem d_L_law_1107 : decode code 1107 = .ok (.aload_n 0, 1) := by decide +kernel
theorem d_L_law_1108 : decode code 1108 = .ok (.iload_n 3, 1) := by decide +kernel
theorem d_L_law_1109 : decode code 1109 = .ok (.iconst 1, 1) := by decide +kernel
theorem d_L_law_1110 : decode code 1110 = .ok (.iadd, 1) := by decide +kernel
theorem d_L_law_1111 : decode code 1111 = .ok (.iaload, 1) := by decide +kernel
theorem d_L_law_1112 : decode code 1112 = .ok (.aload_n 0, 1) := by decide +kernel
theorem d_L_law_1113 : decode code 1113 = .ok (.iload_n 3, 1) := by decide +kernel
theorem d_L_law_1114 : decode code 1114 = .ok (.iconst 2, 1) := by decide +kernel
theorem d_L_law_1115 : decode code 1115 = .ok (.iadd, 1) := by decide +kernel
theorem d_L_law_1116 : decode code 1116 = .ok (.iaload, 1) := by decide +kernel
theorem d_L_law_1117 : decode code 1117 = .ok (.aload_n 0, 1) := by decide +kernel
theorem d_L_law_1118 : decode code 1118 = .ok (.iload_n 3, 1) := by decide +kernel
theorem d_L_law_1119 : decode code 1119 = .ok (.iconst 3, 1) := by decide +kernel
theorem d_L_law_1120 : decode code 1120 = .ok (.iadd, 1) := by decide +kernel
theorem d_L_law_1121 : decode code 1121 = .ok (.iaload, 1) := by decide +kernel
theorem d_L_law_1122 : decode code 1122 = .ok (.invokevirtual 128, 3) := by decide +kernel
theorem d_L_law_1125 : decode code 1125 = .ok (.if_icmp .eq 600, 3) := by decide +kernel
theorem d_L_law_1128 : decode code 1128 = .ok (.iconst 0, 1) := by decide +kernel
theorem d_L_law_1129 : decode code 1129 = .ok (.ireturn, 1) := by decide +kernel
theorem d_L_law_1130 : decode code 1130 = .ok (.aload_n 1, 1) := by decide +kernel
theorem d_L_law_1131 : decode code 1131 = .ok (.aload_n 0, 1) := by decide +kernel
theorem d_L_law_1132 : decode code 1132 = .ok (.iload_n 3, 1) := by decide +kernel
theorem d_L_law_1133 : decode code 1133 = .ok (.iconst 1, 1) := by decide +kernel
theorem d_L_law_1134 : decode code 1134 = .ok (.iadd, 1) := by decide +kernel
theorem d_L_law_1135 : decode code 1135 = .ok (.iaload, 1) := by decide +kernel
theorem d_L_law_1136 : decode code 1136 = .ok (.aload_n 0, 1) := by decide +kernel
theorem d_L_law_1137 : decode code 1137 = .ok (.iload_n 3, 1) := by decide +kernel
theorem d_L_law_1138 : decode code 1138 = .ok (.iconst 2, 1) := by decide +kernel
theorem d_L_law_1139 : decode code 1139 = .ok (.iadd, 1) := by decide +kernel
theorem d_L_law_1140 : decode code 1140 = .ok (.iaload, 1) := by decide +kernel
theorem d_L_law_1141 : decode code 1141 = .ok (.aload_n 0, 1) := by decide +kernel
theorem d_L_law_1142 : decode code 1142 = .ok (.iload_n 3, 1) := by decide +kernel
theorem d_L_law_1143 : decode code 1143 = .ok (.iconst 3, 1) := by decide +kernel
theorem d_L_law_1144 : decode code 1144 = .ok (.iadd, 1) := by decide +kernel
theorem d_L_law_1145 : decode code 1145 = .ok (.iaload, 1) := by decide +kernel
theorem d_L_law_1146 : decode code 1146 = .ok (.invokevirtual 129, 3) := by decide +kernel
theorem d_L_law_1149 : decode code 1149 = .ok (.aload_n 2, 1) := by decide +kernel
theorem d_L_law_1150 : decode code 1150 = .ok (.aload_n 0, 1) := by decide +kernel
theorem d_L_law_1151 : decode code 1151 = .ok (.iload_n 3, 1) := by decide +kernel
theorem d_L_law_1152 : decode code 1152 = .ok (.iconst 1, 1) := by decide +kernel
theorem d_L_law_1153 : decode code 1153 = .ok (.iadd, 1) := by decide +kernel
theorem d_L_law_1154 : decode code 1154 = .ok (.iaload, 1) := by decide +kernel
theorem d_L_law_1155 : decode code 1155 = .ok (.aload_n 0, 1) := by decide +kernel
theorem d_L_law_1156 : decode code 1156 = .ok (.iload_n 3, 1) := by decide +kernel
theorem d_L_law_1157 : decode code 1157 = .ok (.iconst 2, 1) := by decide +kernel
theorem d_L_law_1158 : decode code 1158 = .ok (.iadd, 1) := by decide +kernel
theorem d_L_law_1159 : decode code 1159 = .ok (.iaload, 1) := by decide +kernel
theorem d_L_law_1160 : decode code 1160 = .ok (.aload_n 0, 1) := by decide +kernel
theorem d_L_law_1161 : decode code 1161 = .ok (.iload_n 3, 1) := by decide +kernel
theorem d_L_law_1162 : decode code 1162 = .ok (.iconst 3, 1) := by decide +kernel
theorem d_L_law_1163 : decode code 1163 = .ok (.iadd, 1) := by decide +kernel
theorem d_L_law_1164 : decode code 1164 = .ok (.iaload, 1) := by decide +kernel
theorem d_L_law_1165 : decode code 1165 = .ok (.invokevirtual 132, 3) := by decide +kernel
theorem d_L_law_1168 : decode code 1168 = .ok (.if_icmp .eq 557, 3) := by decide +kernel
theorem d_L_law_1171 : decode code 1171 = .ok (.iconst 0, 1) := by decide +kernel
theorem d_L_law_1172 : decode code 1172 = .ok (.ireturn, 1) := by decide +kernel
theorem d_L_law_1173 : decode code 1173 = .ok (.aload_n 1, 1) := by decide +kernel
theorem d_L_law_1174 : decode code 1174 = .ok (.aload_n 0, 1) := by decide +kernel
theorem d_L_law_1175 : decode code 1175 = .ok (.iload_n 3, 1) := by decide +kernel
theorem d_L_law_1176 : decode code 1176 = .ok (.iconst 1, 1) := by decide +kernel
theorem d_L_law_1177 : decode code 1177 = .ok (.iadd, 1) := by decide +kernel
theorem d_L_law_1178 : decode code 1178 = .ok (.iaload, 1) := by decide +kernel
theorem d_L_law_1179 : decode code 1179 = .ok (.invokevirtual 133, 3) := by decide +kernel
theorem d_L_law_1182 : decode code 1182 = .ok (.aload_n 2, 1) := by decide +kernel
theorem d_L_law_1183 : decode code 1183 = .ok (.aload_n 0, 1) := by decide +kernel
theorem d_L_law_1184 : decode code 1184 = .ok (.iload_n 3, 1) := by decide +kernel
theorem d_L_law_1185 : decode code 1185 = .ok (.iconst 1, 1) := by decide +kernel
theorem d_L_law_1186 : decode code 1186 = .ok (.iadd, 1) := by decide +kernel
theorem d_L_law_1187 : decode code 1187 = .ok (.iaload, 1) := by decide +kernel
theorem d_L_law_1188 : decode code 1188 = .ok (.invokevirtual 136, 3) := by decide +kernel
theorem d_L_law_1191 : decode code 1191 = .ok (.if_icmp .eq 534, 3) := by decide +kernel
theorem d_L_law_1194 : decode code 1194 = .ok (.iconst 0, 1) := by decide +kernel
theorem d_L_law_1195 : decode code 1195 = .ok (.ireturn, 1) := by decide +kernel
theorem d_L_law_1196 : decode code 1196 = .ok (.aload_n 1, 1) := by decide +kernel
theorem d_L_law_1197 : decode code 1197 = .ok (.aload_n 0, 1) := by decide +kernel
theorem d_L_law_1198 : decode code 1198 = .ok (.iload_n 3, 1) := by decide +kernel
theorem d_L_law_1199 : decode code 1199 = .ok (.iconst 1, 1) := by decide +kernel
theorem d_L_law_1200 : decode code 1200 = .ok (.iadd, 1) := by decide +kernel
theorem d_L_law_1201 : decode code 1201 = .ok (.iaload, 1) := by decide +kernel
theorem d_L_law_1202 : decode code 1202 = .ok (.invokevirtual 137, 3) := by decide +kernel
theorem d_L_law_1205 : decode code 1205 = .ok (.aload_n 2, 1) := by decide +kernel
theorem d_L_law_1206 : decode code 1206 = .ok (.aload_n 0, 1) := by decide +kernel
theorem d_L_law_1207 : decode code 1207 = .ok (.iload_n 3, 1) := by decide +kernel
theorem d_L_law_1208 : decode code 1208 = .ok (.iconst 1, 1) := by decide +kernel
theorem d_L_law_1209 : decode code 1209 = .ok (.iadd, 1) := by decide +kernel
theorem d_L_law_1210 : decode code 1210 = .ok (.iaload, 1) := by decide +kernel
theorem d_L_law_1211 : decode code 1211 = .ok (.invokevirtual 140, 3) := by decide +kernel
theorem d_L_law_1214 : decode code 1214 = .ok (.if_icmp .eq 511, 3) := by decide +kernel
theorem d_L_law_1217 : decode code 1217 = .ok (.iconst 0, 1) := by decide +kernel
theorem d_L_law_1218 : decode code 1218 = .ok (.ireturn, 1) := by decide +kernel
theorem d_L_law_1219 : decode code 1219 = .ok (.aload_n 1, 1) := by decide +kernel
theorem d_L_law_1220 : decode code 1220 = .ok (.aload_n 0, 1) := by decide +kernel
theorem d_L_law_1221 : decode code 1221 = .ok (.iload_n 3, 1) := by decide +kernel
theorem d_L_law_1222 : decode code 1222 = .ok (.iconst 1, 1) := by decide +kernel
theorem d_L_law_1223 : decode code 1223 = .ok (.iadd, 1) := by decide +kernel
theorem d_L_law_1224 : decode code 1224 = .ok (.iaload, 1) := by decide +kernel
theorem d_L_law_1225 : decode code 1225 = .ok (.invokevirtual 141, 3) := by decide +kernel
theorem d_L_law_1228 : decode code 1228 = .ok (.aload_n 2, 1) := by decide +kernel
theorem d_L_law_1229 : decode code 1229 = .ok (.aload_n 0, 1) := by decide +kernel
theorem d_L_law_1230 : decode code 1230 = .ok (.iload_n 3, 1) := by decide +kernel
theorem d_L_law_1231 : decode code 1231 = .ok (.iconst 1, 1) := by decide +kernel
theorem d_L_law_1232 : decode code 1232 = .ok (.iadd, 1) := by decide +kernel
theorem d_L_law_1233 : decode code 1233 = .ok (.iaload, 1) := by decide +kernel
theorem d_L_law_1234 : decode code 1234 = .ok (.invokevirtual 144, 3) := by decide +kernel
theorem d_L_law_1237 : decode code 1237 = .ok (.if_icmp .eq 488, 3) := by decide +kernel
theorem d_L_law_1240 : decode code 1240 = .ok (.iconst 0, 1) := by decide +kernel
theorem d_L_law_1241 : decode code 1241 = .ok (.ireturn, 1) := by decide +kernel
theorem d_L_law_1242 : decode code 1242 = .ok (.aload_n 1, 1) := by decide +kernel
theorem d_L_law_1243 : decode code 1243 = .ok (.aload_n 0, 1) := by decide +kernel
theorem d_L_law_1244 : decode code 1244 = .ok (.iload_n 3, 1) := by decide +kernel
theorem d_L_law_1245 : decode code 1245 = .ok (.iconst 1, 1) := by decide +kernel
theorem d_L_law_1246 : decode code 1246 = .ok (.iadd, 1) := by decide +kernel
theorem d_L_law_1247 : decode code 1247 = .ok (.iaload, 1) := by decide +kernel
theorem d_L_law_1248 : decode code 1248 = .ok (.aload_n 0, 1) := by decide +kernel
theorem d_L_law_1249 : decode code 1249 = .ok (.iload_n 3, 1) := by decide +kernel
theorem d_L_law_1250 : decode code 1250 = .ok (.iconst 2, 1) := by decide +kernel
theorem d_L_law_1251 : decode code 1251 = .ok (.iadd, 1) := by decide +kernel
theorem d_L_law_1252 : decode code 1252 = .ok (.iaload, 1) := by decide +kernel
theorem d_L_law_1253 : decode code 1253 = .ok (.invokevirtual 145, 3) := by decide +kernel
theorem d_L_law_1256 : decode code 1256 = .ok (.aload_n 2, 1) := by decide +kernel
theorem d_L_law_1257 : decode code 1257 = .ok (.aload_n 0, 1) := by decide +kernel
theorem d_L_law_1258 : decode code 1258 = .ok (.iload_n 3, 1) := by decide +kernel
theorem d_L_law_1259 : decode code 1259 = .ok (.iconst 1, 1) := by decide +kernel
theorem d_L_law_1260 : decode code 1260 = .ok (.iadd, 1) := by decide +kernel
theorem d_L_law_1261 : decode code 1261 = .ok (.iaload, 1) := by decide +kernel
theorem d_L_law_1262 : decode code 1262 = .ok (.aload_n 0, 1) := by decide +kernel
theorem d_L_law_1263 : decode code 1263 = .ok (.iload_n 3, 1) := by decide +kernel
theorem d_L_law_1264 : decode code 1264 = .ok (.iconst 2, 1) := by decide +kernel
theorem d_L_law_1265 : decode code 1265 = .ok (.iadd, 1) := by decide +kernel
theorem d_L_law_1266 : decode code 1266 = .ok (.iaload, 1) := by decide +kernel
theorem d_L_law_1267 : decode code 1267 = .ok (.invokevirtual 148, 3) := by decide +kernel
theorem d_L_law_1270 : decode code 1270 = .ok (.if_icmp .eq 455, 3) := by decide +kernel
theorem d_L_law_1273 : decode code 1273 = .ok (.iconst 0, 1) := by decide +kernel
theorem d_L_law_1274 : decode code 1274 = .ok (.ireturn, 1) := by decide +kernel
theorem d_L_law_1275 : decode code 1275 = .ok (.aload_n 1, 1) := by decide +kernel
theorem d_L_law_1276 : decode code 1276 = .ok (.aload_n 0, 1) := by decide +kernel
theorem d_L_law_1277 : decode code 1277 = .ok (.iload_n 3, 1) := by decide +kernel
theorem d_L_law_1278 : decode code 1278 = .ok (.iconst 1, 1) := by decide +kernel
theorem d_L_law_1279 : decode code 1279 = .ok (.iadd, 1) := by decide +kernel
theorem d_L_law_1280 : decode code 1280 = .ok (.iaload, 1) := by decide +kernel
theorem d_L_law_1281 : decode code 1281 = .ok (.invokevirtual 149, 3) := by decide +kernel
theorem d_L_law_1284 : decode code 1284 = .ok (.aload_n 2, 1) := by decide +kernel
theorem d_L_law_1285 : decode code 1285 = .ok (.aload_n 0, 1) := by decide +kernel
theorem d_L_law_1286 : decode code 1286 = .ok (.iload_n 3, 1) := by decide +kernel
theorem d_L_law_1287 : decode code 1287 = .ok (.iconst 1, 1) := by decide +kernel
theorem d_L_law_1288 : decode code 1288 = .ok (.iadd, 1) := by decide +kernel
theorem d_L_law_1289 : decode code 1289 = .ok (.iaload, 1) := by decide +kernel
theorem d_L_law_1290 : decode code 1290 = .ok (.invokevirtual 152, 3) := by decide +kernel
theorem d_L_law_1293 : decode code 1293 = .ok (.if_icmp .eq 432, 3) := by decide +kernel
theorem d_L_law_1296 : decode code 1296 = .ok (.iconst 0, 1) := by decide +kernel
theorem d_L_law_1297 : decode code 1297 = .ok (.ireturn, 1) := by decide +kernel
theorem d_L_law_1298 : decode code 1298 = .ok (.aload_n 1, 1) := by decide +kernel
theorem d_L_law_1299 : decode code 1299 = .ok (.aload_n 0, 1) := by decide +kernel
theorem d_L_law_1300 : decode code 1300 = .ok (.iload_n 3, 1) := by decide +kernel
theorem d_L_law_1301 : decode code 1301 = .ok (.iconst 1, 1) := by decide +kernel
theorem d_L_law_1302 : decode code 1302 = .ok (.iadd, 1) := by decide +kernel
theorem d_L_law_1303 : decode code 1303 = .ok (.iaload, 1) := by decide +kernel
theorem d_L_law_1304 : decode code 1304 = .ok (.invokevirtual 153, 3) := by decide +kernel
theorem d_L_law_1307 : decode code 1307 = .ok (.aload_n 2, 1) := by decide +kernel
theorem d_L_law_1308 : decode code 1308 = .ok (.aload_n 0, 1) := by decide +kernel
theorem d_L_law_1309 : decode code 1309 = .ok (.iload_n 3, 1) := by decide +kernel
theorem d_L_law_1310 : decode code 1310 = .ok (.iconst 1, 1) := by decide +kernel
theorem d_L_law_1311 : decode code 1311 = .ok (.iadd, 1) := by decide +kernel
theorem d_L_law_1312 : decode code 1312 = .ok (.iaload, 1) := by decide +kernel
theorem d_L_law_1313 : decode code 1313 = .ok (.invokevirtual 156, 3) := by decide +kernel
theorem d_L_law_1316 : decode code 1316 = .ok (.if_icmp .eq 409, 3) := by decide +kernel
theorem d_L_law_1319 : decode code 1319 = .ok (.iconst 0, 1) := by decide +kernel
theorem d_L_law_1320 : decode code 1320 = .ok (.ireturn, 1) := by decide +kernel
theorem d_L_law_1321 : decode code 1321 = .ok (.aload_n 1, 1) := by decide +kernel
theorem d_L_law_1322 : decode code 1322 = .ok (.aload_n 0, 1) := by decide +kernel
theorem d_L_law_1323 : decode code 1323 = .ok (.iload_n 3, 1) := by decide +kernel
theorem d_L_law_1324 : decode code 1324 = .ok (.iconst 1, 1) := by decide +kernel
theorem d_L_law_1325 : decode code 1325 = .ok (.iadd, 1) := by decide +kernel
theorem d_L_law_1326 : decode code 1326 = .ok (.iaload, 1) := by decide +kernel
theorem d_L_law_1327 : decode code 1327 = .ok (.invokevirtual 157, 3) := by decide +kernel
theorem d_L_law_1330 : decode code 1330 = .ok (.aload_n 2, 1) := by decide +kernel
theorem d_L_law_1331 : decode code 1331 = .ok (.aload_n 0, 1) := by decide +kernel
theorem d_L_law_1332 : decode code 1332 = .ok (.iload_n 3, 1) := by decide +kernel
theorem d_L_law_1333 : decode code 1333 = .ok (.iconst 1, 1) := by decide +kernel
theorem d_L_law_1334 : decode code 1334 = .ok (.iadd, 1) := by decide +kernel
theorem d_L_law_1335 : decode code 1335 = .ok (.iaload, 1) := by decide +kernel
theorem d_L_law_1336 : decode code 1336 = .ok (.invokevirtual 160, 3) := by decide +kernel
theorem d_L_law_1339 : decode code 1339 = .ok (.if_icmp .eq 386, 3) := by decide +kernel
theorem d_L_law_1342 : decode code 1342 = .ok (.iconst 0, 1) := by decide +kernel
theorem d_L_law_1343 : decode code 1343 = .ok (.ireturn, 1) := by decide +kernel
theorem d_L_law_1344 : decode code 1344 = .ok (.aload_n 1, 1) := by decide +kernel
theorem d_L_law_1345 : decode code 1345 = .ok (.aload_n 0, 1) := by decide +kernel
theorem d_L_law_1346 : decode code 1346 = .ok (.iload_n 3, 1) := by decide +kernel
theorem d_L_law_1347 : decode code 1347 = .ok (.iconst 1, 1) := by decide +kernel
theorem d_L_law_1348 : decode code 1348 = .ok (.iadd, 1) := by decide +kernel
theorem d_L_law_1349 : decode code 1349 = .ok (.iaload, 1) := by decide +kernel
theorem d_L_law_1350 : decode code 1350 = .ok (.invokevirtual 161, 3) := by decide +kernel
theorem d_L_law_1353 : decode code 1353 = .ok (.aload_n 2, 1) := by decide +kernel
theorem d_L_law_1354 : decode code 1354 = .ok (.aload_n 0, 1) := by decide +kernel
theorem d_L_law_1355 : decode code 1355 = .ok (.iload_n 3, 1) := by decide +kernel
theorem d_L_law_1356 : decode code 1356 = .ok (.iconst 1, 1) := by decide +kernel
theorem d_L_law_1357 : decode code 1357 = .ok (.iadd, 1) := by decide +kernel
theorem d_L_law_1358 : decode code 1358 = .ok (.iaload, 1) := by decide +kernel
theorem d_L_law_1359 : decode code 1359 = .ok (.invokevirtual 164, 3) := by decide +kernel
theorem d_L_law_1362 : decode code 1362 = .ok (.if_icmp .eq 363, 3) := by decide +kernel
theorem d_L_law_1365 : decode code 1365 = .ok (.iconst 0, 1) := by decide +kernel
theorem d_L_law_1366 : decode code 1366 = .ok (.ireturn, 1) := by decide +kernel
theorem d_L_law_1367 : decode code 1367 = .ok (.aload_n 1, 1) := by decide +kernel
theorem d_L_law_1368 : decode code 1368 = .ok (.aload_n 0, 1) := by decide +kernel
theorem d_L_law_1369 : decode code 1369 = .ok (.iload_n 3, 1) := by decide +kernel
theorem d_L_law_1370 : decode code 1370 = .ok (.iconst 1, 1) := by decide +kernel
theorem d_L_law_1371 : decode code 1371 = .ok (.iadd, 1) := by decide +kernel
theorem d_L_law_1372 : decode code 1372 = .ok (.iaload, 1) := by decide +kernel
theorem d_L_law_1373 : decode code 1373 = .ok (.aload_n 0, 1) := by decide +kernel
theorem d_L_law_1374 : decode code 1374 = .ok (.iload_n 3, 1) := by decide +kernel
theorem d_L_law_1375 : decode code 1375 = .ok (.iconst 2, 1) := by decide +kernel
theorem d_L_law_1376 : decode code 1376 = .ok (.iadd, 1) := by decide +kernel
theorem d_L_law_1377 : decode code 1377 = .ok (.iaload, 1) := by decide +kernel
theorem d_L_law_1378 : decode code 1378 = .ok (.invokevirtual 165, 3) := by decide +kernel
theorem d_L_law_1381 : decode code 1381 = .ok (.aload_n 2, 1) := by decide +kernel
theorem d_L_law_1382 : decode code 1382 = .ok (.aload_n 0, 1) := by decide +kernel
theorem d_L_law_1383 : decode code 1383 = .ok (.iload_n 3, 1) := by decide +kernel
theorem d_L_law_1384 : decode code 1384 = .ok (.iconst 1, 1) := by decide +kernel
theorem d_L_law_1385 : decode code 1385 = .ok (.iadd, 1) := by decide +kernel
theorem d_L_law_1386 : decode code 1386 = .ok (.iaload, 1) := by decide +kernel
theorem d_L_law_1387 : decode code 1387 = .ok (.aload_n 0, 1) := by decide +kernel
theorem d_L_law_1388 : decode code 1388 = .ok (.iload_n 3, 1) := by decide +kernel
theorem d_L_law_1389 : decode code 1389 = .ok (.iconst 2, 1) := by decide +kernel
theorem d_L_law_1390 : decode code 1390 = .ok (.iadd, 1) := by decide +kernel
theorem d_L_law_1391 : decode code 1391 = .ok (.iaload, 1) := by decide +kernel
theorem d_L_law_1392 : decode code 1392 = .ok (.invokevirtual 168, 3) := by decide +kernel
theorem d_L_law_1395 : decode code 1395 = .ok (.if_icmp .eq 330, 3) := by decide +kernel
theorem d_L_law_1398 : decode code 1398 = .ok (.iconst 0, 1) := by decide +kernel
theorem d_L_law_1399 : decode code 1399 = .ok (.ireturn, 1) := by decide +kernel
theorem d_L_law_1400 : decode code 1400 = .ok (.aload_n 1, 1) := by decide +kernel
theorem d_L_law_1401 : decode code 1401 = .ok (.aload_n 0, 1) := by decide +kernel
theorem d_L_law_1402 : decode code 1402 = .ok (.iload_n 3, 1) := by decide +kernel
theorem d_L_law_1403 : decode code 1403 = .ok (.iconst 1, 1) := by decide +kernel
theorem d_L_law_1404 : decode code 1404 = .ok (.iadd, 1) := by decide +kernel
theorem d_L_law_1405 : decode code 1405 = .ok (.iaload, 1) := by decide +kernel
theorem d_L_law_1406 : decode code 1406 = .ok (.invokevirtual 169, 3) := by decide +kernel
theorem d_L_law_1409 : decode code 1409 = .ok (.aload_n 2, 1) := by decide +kernel
theorem d_L_law_1410 : decode code 1410 = .ok (.aload_n 0, 1) := by decide +kernel
theorem d_L_law_1411 : decode code 1411 = .ok (.iload_n 3, 1) := by decide +kernel
theorem d_L_law_1412 : decode code 1412 = .ok (.iconst 1, 1) := by decide +kernel
theorem d_L_law_1413 : decode code 1413 = .ok (.iadd, 1) := by decide +kernel
theorem d_L_law_1414 : decode code 1414 = .ok (.iaload, 1) := by decide +kernel
theorem d_L_law_1415 : decode code 1415 = .ok (.invokevirtual 172, 3) := by decide +kernel
theorem d_L_law_1418 : decode code 1418 = .ok (.if_icmp .eq 307, 3) := by decide +kernel
theorem d_L_law_1421 : decode code 1421 = .ok (.iconst 0, 1) := by decide +kernel
theorem d_L_law_1422 : decode code 1422 = .ok (.ireturn, 1) := by decide +kernel
theorem d_L_law_1423 : decode code 1423 = .ok (.aload_n 1, 1) := by decide +kernel
theorem d_L_law_1424 : decode code 1424 = .ok (.aload_n 0, 1) := by decide +kernel
theorem d_L_law_1425 : decode code 1425 = .ok (.iload_n 3, 1) := by decide +kernel
theorem d_L_law_1426 : decode code 1426 = .ok (.iconst 1, 1) := by decide +kernel
theorem d_L_law_1427 : decode code 1427 = .ok (.iadd, 1) := by decide +kernel
theorem d_L_law_1428 : decode code 1428 = .ok (.iaload, 1) := by decide +kernel
theorem d_L_law_1429 : decode code 1429 = .ok (.aload_n 0, 1) := by decide +kernel
theorem d_L_law_1430 : decode code 1430 = .ok (.iload_n 3, 1) := by decide +kernel
theorem d_L_law_1431 : decode code 1431 = .ok (.iconst 2, 1) := by decide +kernel
theorem d_L_law_1432 : decode code 1432 = .ok (.iadd, 1) := by decide +kernel
theorem d_L_law_1433 : decode code 1433 = .ok (.iaload, 1) := by decide +kernel
theorem d_L_law_1434 : decode code 1434 = .ok (.invokevirtual 173, 3) := by decide +kernel
theorem d_L_law_1437 : decode code 1437 = .ok (.aload_n 2, 1) := by decide +kernel
theorem d_L_law_1438 : decode code 1438 = .ok (.aload_n 0, 1) := by decide +kernel
theorem d_L_law_1439 : decode code 1439 = .ok (.iload_n 3, 1) := by decide +kernel
theorem d_L_law_1440 : decode code 1440 = .ok (.iconst 1, 1) := by decide +kernel
theorem d_L_law_1441 : decode code 1441 = .ok (.iadd, 1) := by decide +kernel
theorem d_L_law_1442 : decode code 1442 = .ok (.iaload, 1) := by decide +kernel
theorem d_L_law_1443 : decode code 1443 = .ok (.aload_n 0, 1) := by decide +kernel
theorem d_L_law_1444 : decode code 1444 = .ok (.iload_n 3, 1) := by decide +kernel
theorem d_L_law_1445 : decode code 1445 = .ok (.iconst 2, 1) := by decide +kernel
theorem d_L_law_1446 : decode code 1446 = .ok (.iadd, 1) := by decide +kernel
theorem d_L_law_1447 : decode code 1447 = .ok (.iaload, 1) := by decide +kernel
theorem d_L_law_1448 : decode code 1448 = .ok (.invokevirtual 176, 3) := by decide +kernel
theorem d_L_law_1451 : decode code 1451 = .ok (.if_icmp .eq 274, 3) := by decide +kernel
theorem d_L_law_1454 : decode code 1454 = .ok (.iconst 0, 1) := by decide +kernel
theorem d_L_law_1455 : decode code 1455 = .ok (.ireturn, 1) := by decide +kernel
theorem d_L_law_1456 : decode code 1456 = .ok (.aload_n 1, 1) := by decide +kernel
theorem d_L_law_1457 : decode code 1457 = .ok (.aload_n 0, 1) := by decide +kernel
theorem d_L_law_1458 : decode code 1458 = .ok (.iload_n 3, 1) := by decide +kernel
theorem d_L_law_1459 : decode code 1459 = .ok (.iconst 1, 1) := by decide +kernel
theorem d_L_law_1460 : decode code 1460 = .ok (.iadd, 1) := by decide +kernel
theorem d_L_law_1461 : decode code 1461 = .ok (.iaload, 1) := by decide +kernel
theorem d_L_law_1462 : decode code 1462 = .ok (.invokevirtual 177, 3) := by decide +kernel
theorem d_L_law_1465 : decode code 1465 = .ok (.aload_n 2, 1) := by decide +kernel
theorem d_L_law_1466 : decode code 1466 = .ok (.aload_n 0, 1) := by decide +kernel
theorem d_L_law_1467 : decode code 1467 = .ok (.iload_n 3, 1) := by decide +kernel
theorem d_L_law_1468 : decode code 1468 = .ok (.iconst 1, 1) := by decide +kernel
theorem d_L_law_1469 : decode code 1469 = .ok (.iadd, 1) := by decide +kernel
theorem d_L_law_1470 : decode code 1470 = .ok (.iaload, 1) := by decide +kernel
theorem d_L_law_1471 : decode code 1471 = .ok (.invokevirtual 180, 3) := by decide +kernel
theorem d_L_law_1474 : decode code 1474 = .ok (.if_icmp .eq 251, 3) := by decide +kernel
theorem d_L_law_1477 : decode code 1477 = .ok (.iconst 0, 1) := by decide +kernel
theorem d_L_law_1478 : decode code 1478 = .ok (.ireturn, 1) := by decide +kernel
theorem d_L_law_1479 : decode code 1479 = .ok (.aload_n 1, 1) := by decide +kernel
theorem d_L_law_1480 : decode code 1480 = .ok (.aload_n 0, 1) := by decide +kernel
theorem d_L_law_1481 : decode code 1481 = .ok (.iload_n 3, 1) := by decide +kernel
theorem d_L_law_1482 : decode code 1482 = .ok (.iconst 1, 1) := by decide +kernel
theorem d_L_law_1483 : decode code 1483 = .ok (.iadd, 1) := by decide +kernel
theorem d_L_law_1484 : decode code 1484 = .ok (.iaload, 1) := by decide +kernel
theorem d_L_law_1485 : decode code 1485 = .ok (.invokevirtual 181, 3) := by decide +kernel
theorem d_L_law_1488 : decode code 1488 = .ok (.aload_n 2, 1) := by decide +kernel
theorem d_L_law_1489 : decode code 1489 = .ok (.aload_n 0, 1) := by decide +kernel
theorem d_L_law_1490 : decode code 1490 = .ok (.iload_n 3, 1) := by decide +kernel
theorem d_L_law_1491 : decode code 1491 = .ok (.iconst 1, 1) := by decide +kernel
theorem d_L_law_1492 : decode code 1492 = .ok (.iadd, 1) := by decide +kernel
theorem d_L_law_1493 : decode code 1493 = .ok (.iaload, 1) := by decide +kernel
theorem d_L_law_1494 : decode code 1494 = .ok (.invokevirtual 184, 3) := by decide +kernel
theorem d_L_law_1497 : decode code 1497 = .ok (.if_icmp .eq 228, 3) := by decide +kernel
theorem d_L_law_1500 : decode code 1500 = .ok (.iconst 0, 1) := by decide +kernel
theorem d_L_law_1501 : decode code 1501 = .ok (.ireturn, 1) := by decide +kernel
theorem d_L_law_1502 : decode code 1502 = .ok (.aload_n 1, 1) := by decide +kernel
theorem d_L_law_1503 : decode code 1503 = .ok (.aload_n 0, 1) := by decide +kernel
theorem d_L_law_1504 : decode code 1504 = .ok (.iload_n 3, 1) := by decide +kernel
theorem d_L_law_1505 : decode code 1505 = .ok (.iconst 1, 1) := by decide +kernel
theorem d_L_law_1506 : decode code 1506 = .ok (.iadd, 1) := by decide +kernel
theorem d_L_law_1507 : decode code 1507 = .ok (.iaload, 1) := by decide +kernel
theorem d_L_law_1508 : decode code 1508 = .ok (.aload_n 0, 1) := by decide +kernel
theorem d_L_law_1509 : decode code 1509 = .ok (.iload_n 3, 1) := by decide +kernel
theorem d_L_law_1510 : decode code 1510 = .ok (.iconst 2, 1) := by decide +kernel
theorem d_L_law_1511 : decode code 1511 = .ok (.iadd, 1) := by decide +kernel
theorem d_L_law_1512 : decode code 1512 = .ok (.iaload, 1) := by decide +kernel
theorem d_L_law_1513 : decode code 1513 = .ok (.invokevirtual 185, 3) := by decide +kernel
theorem d_L_law_1516 : decode code 1516 = .ok (.aload_n 2, 1) := by decide +kernel
theorem d_L_law_1517 : decode code 1517 = .ok (.aload_n 0, 1) := by decide +kernel
theorem d_L_law_1518 : decode code 1518 = .ok (.iload_n 3, 1) := by decide +kernel
theorem d_L_law_1519 : decode code 1519 = .ok (.iconst 1, 1) := by decide +kernel
theorem d_L_law_1520 : decode code 1520 = .ok (.iadd, 1) := by decide +kernel
theorem d_L_law_1521 : decode code 1521 = .ok (.iaload, 1) := by decide +kernel
theorem d_L_law_1522 : decode code 1522 = .ok (.aload_n 0, 1) := by decide +kernel
theorem d_L_law_1523 : decode code 1523 = .ok (.iload_n 3, 1) := by decide +kernel
theorem d_L_law_1524 : decode code 1524 = .ok (.iconst 2, 1) := by decide +kernel
theorem d_L_law_1525 : decode code 1525 = .ok (.iadd, 1) := by decide +kernel
theorem d_L_law_1526 : decode code 1526 = .ok (.iaload, 1) := by decide +kernel
theorem d_L_law_1527 : decode code 1527 = .ok (.invokevirtual 188, 3) := by decide +kernel
theorem d_L_law_1530 : decode code 1530 = .ok (.if_icmp .eq 195, 3) := by decide +kernel
theorem d_L_law_1533 : decode code 1533 = .ok (.iconst 0, 1) := by decide +kernel
theorem d_L_law_1534 : decode code 1534 = .ok (.ireturn, 1) := by decide +kernel
theorem d_L_law_1535 : decode code 1535 = .ok (.aload_n 1, 1) := by decide +kernel
theorem d_L_law_1536 : decode code 1536 = .ok (.aload_n 0, 1) := by decide +kernel
theorem d_L_law_1537 : decode code 1537 = .ok (.iload_n 3, 1) := by decide +kernel
theorem d_L_law_1538 : decode code 1538 = .ok (.iconst 1, 1) := by decide +kernel
theorem d_L_law_1539 : decode code 1539 = .ok (.iadd, 1) := by decide +kernel
theorem d_L_law_1540 : decode code 1540 = .ok (.iaload, 1) := by decide +kernel
theorem d_L_law_1541 : decode code 1541 = .ok (.aload_n 0, 1) := by decide +kernel
theorem d_L_law_1542 : decode code 1542 = .ok (.iload_n 3, 1) := by decide +kernel
theorem d_L_law_1543 : decode code 1543 = .ok (.iconst 2, 1) := by decide +kernel
theorem d_L_law_1544 : decode code 1544 = .ok (.iadd, 1) := by decide +kernel
theorem d_L_law_1545 : decode code 1545 = .ok (.iaload, 1) := by decide +kernel
theorem d_L_law_1546 : decode code 1546 = .ok (.aload_n 0, 1) := by decide +kernel
theorem d_L_law_1547 : decode code 1547 = .ok (.iload_n 3, 1) := by decide +kernel
theorem d_L_law_1548 : decode code 1548 = .ok (.iconst 3, 1) := by decide +kernel
theorem d_L_law_1549 : decode code 1549 = .ok (.iadd, 1) := by decide +kernel
theorem d_L_law_1550 : decode code 1550 = .ok (.iaload, 1) := by decide +kernel
theorem d_L_law_1551 : decode code 1551 = .ok (.invokevirtual 189, 3) := by decide +kernel
theorem d_L_law_1554 : decode code 1554 = .ok (.aload_n 2, 1) := by decide +kernel
theorem d_L_law_1555 : decode code 1555 = .ok (.aload_n 0, 1) := by decide +kernel
theorem d_L_law_1556 : decode code 1556 = .ok (.iload_n 3, 1) := by decide +kernel
theorem d_L_law_1557 : decode code 1557 = .ok (.iconst 1, 1) := by decide +kernel
theorem d_L_law_1558 : decode code 1558 = .ok (.iadd, 1) := by decide +kernel
theorem d_L_law_1559 : decode code 1559 = .ok (.iaload, 1) := by decide +kernel
theorem d_L_law_1560 : decode code 1560 = .ok (.aload_n 0, 1) := by decide +kernel
theorem d_L_law_1561 : decode code 1561 = .ok (.iload_n 3, 1) := by decide +kernel
theorem d_L_law_1562 : decode code 1562 = .ok (.iconst 2, 1) := by decide +kernel
theorem d_L_law_1563 : decode code 1563 = .ok (.iadd, 1) := by decide +kernel
theorem d_L_law_1564 : decode code 1564 = .ok (.iaload, 1) := by decide +kernel
theorem d_L_law_1565 : decode code 1565 = .ok (.aload_n 0, 1) := by decide +kernel
theorem d_L_law_1566 : decode code 1566 = .ok (.iload_n 3, 1) := by decide +kernel
theorem d_L_law_1567 : decode code 1567 = .ok (.iconst 3, 1) := by decide +kernel
theorem d_L_law_1568 : decode code 1568 = .ok (.iadd, 1) := by decide +kernel
theorem d_L_law_1569 : decode code 1569 = .ok (.iaload, 1) := by decide +kernel
theorem d_L_law_1570 : decode code 1570 = .ok (.invokevirtual 192, 3) := by decide +kernel
theorem d_L_law_1573 : decode code 1573 = .ok (.if_icmp .eq 152, 3) := by decide +kernel
theorem d_L_law_1576 : decode code 1576 = .ok (.iconst 0, 1) := by decide +kernel
theorem d_L_law_1577 : decode code 1577 = .ok (.ireturn, 1) := by decide +kernel
theorem d_L_law_1578 : decode code 1578 = .ok (.aload_n 1, 1) := by decide +kernel
theorem d_L_law_1579 : decode code 1579 = .ok (.aload_n 0, 1) := by decide +kernel
theorem d_L_law_1580 : decode code 1580 = .ok (.iload_n 3, 1) := by decide +kernel
theorem d_L_law_1581 : decode code 1581 = .ok (.iconst 1, 1) := by decide +kernel
theorem d_L_law_1582 : decode code 1582 = .ok (.iadd, 1) := by decide +kernel
theorem d_L_law_1583 : decode code 1583 = .ok (.iaload, 1) := by decide +kernel
theorem d_L_law_1584 : decode code 1584 = .ok (.aload_n 0, 1) := by decide +kernel
theorem d_L_law_1585 : decode code 1585 = .ok (.iload_n 3, 1) := by decide +kernel
theorem d_L_law_1586 : decode code 1586 = .ok (.iconst 2, 1) := by decide +kernel
theorem d_L_law_1587 : decode code 1587 = .ok (.iadd, 1) := by decide +kernel
theorem d_L_law_1588 : decode code 1588 = .ok (.iaload, 1) := by decide +kernel
theorem d_L_law_1589 : decode code 1589 = .ok (.invokevirtual 193, 3) := by decide +kernel
theorem d_L_law_1592 : decode code 1592 = .ok (.aload_n 2, 1) := by decide +kernel
theorem d_L_law_1593 : decode code 1593 = .ok (.aload_n 0, 1) := by decide +kernel
theorem d_L_law_1594 : decode code 1594 = .ok (.iload_n 3, 1) := by decide +kernel
theorem d_L_law_1595 : decode code 1595 = .ok (.iconst 1, 1) := by decide +kernel
theorem d_L_law_1596 : decode code 1596 = .ok (.iadd, 1) := by decide +kernel
theorem d_L_law_1597 : decode code 1597 = .ok (.iaload, 1) := by decide +kernel
theorem d_L_law_1598 : decode code 1598 = .ok (.aload_n 0, 1) := by decide +kernel
theorem d_L_law_1599 : decode code 1599 = .ok (.iload_n 3, 1) := by decide +kernel
theorem d_L_law_1600 : decode code 1600 = .ok (.iconst 2, 1) := by decide +kernel
theorem d_L_law_1601 : decode code 1601 = .ok (.iadd, 1) := by decide +kernel
theorem d_L_law_1602 : decode code 1602 = .ok (.iaload, 1) := by decide +kernel
theorem d_L_law_1603 : decode code 1603 = .ok (.invokevirtual 196, 3) := by decide +kernel
theorem d_L_law_1606 : decode code 1606 = .ok (.if_icmp .eq 119, 3) := by decide +kernel
theorem d_L_law_1609 : decode code 1609 = .ok (.iconst 0, 1) := by decide +kernel
theorem d_L_law_1610 : decode code 1610 = .ok (.ireturn, 1) := by decide +kernel
theorem d_L_law_1611 : decode code 1611 = .ok (.aload_n 1, 1) := by decide +kernel
theorem d_L_law_1612 : decode code 1612 = .ok (.invokevirtual 197, 3) := by decide +kernel
theorem d_L_law_1615 : decode code 1615 = .ok (.aload_n 2, 1) := by decide +kernel
theorem d_L_law_1616 : decode code 1616 = .ok (.invokevirtual 201, 3) := by decide +kernel
theorem d_L_law_1619 : decode code 1619 = .ok (.if_icmp .eq 106, 3) := by decide +kernel
theorem d_L_law_1622 : decode code 1622 = .ok (.iconst 0, 1) := by decide +kernel
theorem d_L_law_1623 : decode code 1623 = .ok (.ireturn, 1) := by decide +kernel
theorem d_L_law_1624 : decode code 1624 = .ok (.aload_n 1, 1) := by decide +kernel
theorem d_L_law_1625 : decode code 1625 = .ok (.invokevirtual 202, 3) := by decide +kernel
theorem d_L_law_1628 : decode code 1628 = .ok (.aload_n 2, 1) := by decide +kernel
theorem d_L_law_1629 : decode code 1629 = .ok (.invokevirtual 206, 3) := by decide +kernel
theorem d_L_law_1632 : decode code 1632 = .ok (.lcmp, 1) := by decide +kernel
theorem d_L_law_1633 : decode code 1633 = .ok (.ifCond .eq 92, 3) := by decide +kernel
theorem d_L_law_1636 : decode code 1636 = .ok (.iconst 0, 1) := by decide +kernel
theorem d_L_law_1637 : decode code 1637 = .ok (.ireturn, 1) := by decide +kernel
theorem d_L_law_1638 : decode code 1638 = .ok (.aload_n 1, 1) := by decide +kernel
theorem d_L_law_1639 : decode code 1639 = .ok (.invokevirtual 207, 3) := by decide +kernel
theorem d_L_law_1642 : decode code 1642 = .ok (.aload_n 2, 1) := by decide +kernel
theorem d_L_law_1643 : decode code 1643 = .ok (.invokevirtual 210, 3) := by decide +kernel
theorem d_L_law_1646 : decode code 1646 = .ok (.lcmp, 1) := by decide +kernel
theorem d_L_law_1647 : decode code 1647 = .ok (.ifCond .eq 78, 3) := by decide +kernel
theorem d_L_law_1650 : decode code 1650 = .ok (.iconst 0, 1) := by decide +kernel
theorem d_L_law_1651 : decode code 1651 = .ok (.ireturn, 1) := by decide +kernel
theorem d_L_law_1652 : decode code 1652 = .ok (.aload_n 1, 1) := by decide +kernel
theorem d_L_law_1653 : decode code 1653 = .ok (.aload_n 0, 1) := by decide +kernel
theorem d_L_law_1654 : decode code 1654 = .ok (.iload_n 3, 1) := by decide +kernel
theorem d_L_law_1655 : decode code 1655 = .ok (.iconst 1, 1) := by decide +kernel
theorem d_L_law_1656 : decode code 1656 = .ok (.iadd, 1) := by decide +kernel
theorem d_L_law_1657 : decode code 1657 = .ok (.iaload, 1) := by decide +kernel
theorem d_L_law_1658 : decode code 1658 = .ok (.invokevirtual 211, 3) := by decide +kernel
theorem d_L_law_1661 : decode code 1661 = .ok (.aload_n 2, 1) := by decide +kernel
theorem d_L_law_1662 : decode code 1662 = .ok (.aload_n 0, 1) := by decide +kernel
theorem d_L_law_1663 : decode code 1663 = .ok (.iload_n 3, 1) := by decide +kernel
theorem d_L_law_1664 : decode code 1664 = .ok (.iconst 1, 1) := by decide +kernel
theorem d_L_law_1665 : decode code 1665 = .ok (.iadd, 1) := by decide +kernel
theorem d_L_law_1666 : decode code 1666 = .ok (.iaload, 1) := by decide +kernel
theorem d_L_law_1667 : decode code 1667 = .ok (.invokevirtual 214, 3) := by decide +kernel
theorem d_L_law_1670 : decode code 1670 = .ok (.if_icmp .eq 55, 3) := by decide +kernel
theorem d_L_law_1673 : decode code 1673 = .ok (.iconst 0, 1) := by decide +kernel
theorem d_L_law_1674 : decode code 1674 = .ok (.ireturn, 1) := by decide +kernel
theorem d_L_law_1675 : decode code 1675 = .ok (.aload_n 1, 1) := by decide +kernel
theorem d_L_law_1676 : decode code 1676 = .ok (.invokevirtual 215, 3) := by decide +kernel
theorem d_L_law_1679 : decode code 1679 = .ok (.aload_n 2, 1) := by decide +kernel
theorem d_L_law_1680 : decode code 1680 = .ok (.invokevirtual 218, 3) := by decide +kernel
theorem d_L_law_1683 : decode code 1683 = .ok (.if_icmp .eq 42, 3) := by decide +kernel
theorem d_L_law_1686 : decode code 1686 = .ok (.iconst 0, 1) := by decide +kernel
theorem d_L_law_1687 : decode code 1687 = .ok (.ireturn, 1) := by decide +kernel
theorem d_L_law_1688 : decode code 1688 = .ok (.aload_n 1, 1) := by decide +kernel
theorem d_L_law_1689 : decode code 1689 = .ok (.aload_n 0, 1) := by decide +kernel
theorem d_L_law_1690 : decode code 1690 = .ok (.iload_n 3, 1) := by decide +kernel
theorem d_L_law_1691 : decode code 1691 = .ok (.iconst 1, 1) := by decide +kernel
theorem d_L_law_1692 : decode code 1692 = .ok (.iadd, 1) := by decide +kernel
theorem d_L_law_1693 : decode code 1693 = .ok (.iaload, 1) := by decide +kernel
theorem d_L_law_1694 : decode code 1694 = .ok (.invokevirtual 219, 3) := by decide +kernel
theorem d_L_law_1697 : decode code 1697 = .ok (.aload_n 2, 1) := by decide +kernel
theorem d_L_law_1698 : decode code 1698 = .ok (.aload_n 0, 1) := by decide +kernel
theorem d_L_law_1699 : decode code 1699 = .ok (.iload_n 3, 1) := by decide +kernel
theorem d_L_law_1700 : decode code 1700 = .ok (.iconst 1, 1) := by decide +kernel
theorem d_L_law_1701 : decode code 1701 = .ok (.iadd, 1) := by decide +kernel
theorem d_L_law_1702 : decode code 1702 = .ok (.iaload, 1) := by decide +kernel
theorem d_L_law_1703 : decode code 1703 = .ok (.invokevirtual 222, 3) := by decide +kernel
theorem d_L_law_1706 : decode code 1706 = .ok (.if_icmp .eq 19, 3) := by decide +kernel
theorem d_L_law_1709 : decode code 1709 = .ok (.iconst 0, 1) := by decide +kernel
theorem d_L_law_1710 : decode code 1710 = .ok (.ireturn, 1) := by decide +kernel
theorem d_L_law_1711 : decode code 1711 = .ok (.aload_n 1, 1) := by decide +kernel
theorem d_L_law_1712 : decode code 1712 = .ok (.invokevirtual 223, 3) := by decide +kernel
theorem d_L_law_1715 : decode code 1715 = .ok (.aload_n 2, 1) := by decide +kernel
theorem d_L_law_1716 : decode code 1716 = .ok (.invokevirtual 226, 3) := by decide +kernel
theorem d_L_law_1719 : decode code 1719 = .ok (.lcmp, 1) := by decide +kernel
theorem d_L_law_1720 : decode code 1720 = .ok (.ifCond .eq 5, 3) := by decide +kernel
theorem d_L_law_1723 : decode code 1723 = .ok (.iconst 0, 1) := by decide +kernel
theorem d_L_law_1724 : decode code 1724 = .ok (.ireturn, 1) := by decide +kernel
theorem d_L_law_1725 : decode code 1725 = .ok (.iinc 3 6, 3) := by decide +kernel
theorem d_L_law_1728 : decode code 1728 = .ok (.goto (-1710), 3) := by decide +kernel
theorem d_L_law_1731 : decode code 1731 = .ok (.iconst 1, 1) := by decide +kernel
theorem d_L_law_1732 : decode code 1732 = .ok (.ireturn, 1) := by decide +kernel

theorem dN_init_0 : decode bN_init 0 = .ok (.aload_n 0, 1) := by decide +kernel
theorem dN_init_1 : decode bN_init 1 = .ok (.invokespecial 1, 3) := by decide +kernel
theorem dN_init_4 : decode bN_init 4 = .ok (.aload_n 0, 1) := by decide +kernel
theorem dN_init_5 : decode bN_init 5 = .ok (.iconst 1, 1) := by decide +kernel
theorem dN_init_6 : decode bN_init 6 = .ok (.bipush 16, 2) := by decide +kernel
theorem dN_init_8 : decode bN_init 8 = .ok (.iload_n 1, 1) := by decide +kernel
theorem dN_init_9 : decode bN_init 9 = .ok (.invokestatic 9, 3) := by decide +kernel
theorem dN_init_12 : decode bN_init 12 = .ok (.invokestatic 15, 3) := by decide +kernel
theorem dN_init_15 : decode bN_init 15 = .ok (.putfield 18, 3) := by decide +kernel
theorem dN_init_18 : decode bN_init 18 = .ok (.aload_n 0, 1) := by decide +kernel
theorem dN_init_19 : decode bN_init 19 = .ok (.iconst 1, 1) := by decide +kernel
theorem dN_init_20 : decode bN_init 20 = .ok (.bipush 16, 2) := by decide +kernel
theorem dN_init_22 : decode bN_init 22 = .ok (.iload_n 2, 1) := by decide +kernel
theorem dN_init_23 : decode bN_init 23 = .ok (.invokestatic 9, 3) := by decide +kernel
theorem dN_init_26 : decode bN_init 26 = .ok (.invokestatic 15, 3) := by decide +kernel
theorem dN_init_29 : decode bN_init 29 = .ok (.putfield 22, 3) := by decide +kernel
theorem dN_init_32 : decode bN_init 32 = .ok (.aload_n 0, 1) := by decide +kernel
theorem dN_init_33 : decode bN_init 33 = .ok (.sipush 256, 3) := by decide +kernel
theorem dN_init_36 : decode bN_init 36 = .ok (.newarray .boolean, 2) := by decide +kernel
theorem dN_init_38 : decode bN_init 38 = .ok (.putfield 25, 3) := by decide +kernel
theorem dN_init_41 : decode bN_init 41 = .ok (.iconst 0, 1) := by decide +kernel
theorem dN_init_42 : decode bN_init 42 = .ok (.istore_n 3, 1) := by decide +kernel
theorem dN_init_43 : decode bN_init 43 = .ok (.iload_n 3, 1) := by decide +kernel
theorem dN_init_44 : decode bN_init 44 = .ok (.aload_n 0, 1) := by decide +kernel
theorem dN_init_45 : decode bN_init 45 = .ok (.getfield 25, 3) := by decide +kernel
theorem dN_init_48 : decode bN_init 48 = .ok (.arraylength, 1) := by decide +kernel
theorem dN_init_49 : decode bN_init 49 = .ok (.if_icmp .ge 42, 3) := by decide +kernel
theorem dN_init_52 : decode bN_init 52 = .ok (.aload_n 0, 1) := by decide +kernel
theorem dN_init_53 : decode bN_init 53 = .ok (.getfield 25, 3) := by decide +kernel
theorem dN_init_56 : decode bN_init 56 = .ok (.iload_n 3, 1) := by decide +kernel
theorem dN_init_57 : decode bN_init 57 = .ok (.iload_n 3, 1) := by decide +kernel
theorem dN_init_58 : decode bN_init 58 = .ok (.bipush 16, 2) := by decide +kernel
theorem dN_init_60 : decode bN_init 60 = .ok (.irem, 1) := by decide +kernel
theorem dN_init_61 : decode bN_init 61 = .ok (.aload_n 0, 1) := by decide +kernel
theorem dN_init_62 : decode bN_init 62 = .ok (.getfield 18, 3) := by decide +kernel
theorem dN_init_65 : decode bN_init 65 = .ok (.if_icmp .ge 14, 3) := by decide +kernel
theorem dN_init_68 : decode bN_init 68 = .ok (.iload_n 3, 1) := by decide +kernel
theorem dN_init_69 : decode bN_init 69 = .ok (.bipush 16, 2) := by decide +kernel
theorem dN_init_71 : decode bN_init 71 = .ok (.idiv, 1) := by decide +kernel
theorem dN_init_72 : decode bN_init 72 = .ok (.aload_n 0, 1) := by decide +kernel
theorem dN_init_73 : decode bN_init 73 = .ok (.getfield 22, 3) := by decide +kernel
theorem dN_init_76 : decode bN_init 76 = .ok (.if_icmp .lt 7, 3) := by decide +kernel
theorem dN_init_79 : decode bN_init 79 = .ok (.iconst 1, 1) := by decide +kernel
theorem dN_init_80 : decode bN_init 80 = .ok (.goto 4, 3) := by decide +kernel
theorem dN_init_83 : decode bN_init 83 = .ok (.iconst 0, 1) := by decide +kernel
theorem dN_init_84 : decode bN_init 84 = .ok (.bastore, 1) := by decide +kernel
theorem dN_init_85 : decode bN_init 85 = .ok (.iinc 3 1, 3) := by decide +kernel
theorem dN_init_88 : decode bN_init 88 = .ok (.goto (-45), 3) := by decide +kernel
theorem dN_init_91 : decode bN_init 91 = .ok (.aload_n 0, 1) := by decide +kernel
theorem dN_init_92 : decode bN_init 92 = .ok (.bipush 16, 2) := by decide +kernel
theorem dN_init_94 : decode bN_init 94 = .ok (.putfield 29, 3) := by decide +kernel
theorem dN_init_97 : decode bN_init 97 = .ok (.aload_n 0, 1) := by decide +kernel
theorem dN_init_98 : decode bN_init 98 = .ok (.bipush 12, 2) := by decide +kernel
theorem dN_init_100 : decode bN_init 100 = .ok (.newarray .int, 2) := by decide +kernel
theorem dN_init_102 : decode bN_init 102 = .ok (.putfield 32, 3) := by decide +kernel
theorem dN_init_105 : decode bN_init 105 = .ok (.aload_n 0, 1) := by decide +kernel
theorem dN_init_106 : decode bN_init 106 = .ok (.bipush 12, 2) := by decide +kernel
theorem dN_init_108 : decode bN_init 108 = .ok (.newarray .int, 2) := by decide +kernel
theorem dN_init_110 : decode bN_init 110 = .ok (.putfield 36, 3) := by decide +kernel
theorem dN_init_113 : decode bN_init 113 = .ok (.aload_n 0, 1) := by decide +kernel
theorem dN_init_114 : decode bN_init 114 = .ok (.iconst 0, 1) := by decide +kernel
theorem dN_init_115 : decode bN_init 115 = .ok (.putfield 39, 3) := by decide +kernel
theorem dN_init_118 : decode bN_init 118 = .ok (.aload_n 0, 1) := by decide +kernel
theorem dN_init_119 : decode bN_init 119 = .ok (.sipush 256, 3) := by decide +kernel
theorem dN_init_122 : decode bN_init 122 = .ok (.newarray .int, 2) := by decide +kernel
theorem dN_init_124 : decode bN_init 124 = .ok (.putfield 42, 3) := by decide +kernel
theorem dN_init_127 : decode bN_init 127 = .ok (.aload_n 0, 1) := by decide +kernel
theorem dN_init_128 : decode bN_init 128 = .ok (.iconst 0, 1) := by decide +kernel
theorem dN_init_129 : decode bN_init 129 = .ok (.putfield 45, 3) := by decide +kernel
theorem dN_init_132 : decode bN_init 132 = .ok (.aload_n 0, 1) := by decide +kernel
theorem dN_init_133 : decode bN_init 133 = .ok (.bipush 13, 2) := by decide +kernel
theorem dN_init_135 : decode bN_init 135 = .ok (.newarray .int, 2) := by decide +kernel
theorem dN_init_137 : decode bN_init 137 = .ok (.putfield 49, 3) := by decide +kernel
theorem dN_init_140 : decode bN_init 140 = .ok (.aload_n 0, 1) := by decide +kernel
theorem dN_init_141 : decode bN_init 141 = .ok (.getfield 49, 3) := by decide +kernel
theorem dN_init_144 : decode bN_init 144 = .ok (.iconst (-1), 1) := by decide +kernel
theorem dN_init_145 : decode bN_init 145 = .ok (.invokestatic 52, 3) := by decide +kernel
theorem dN_init_148 : decode bN_init 148 = .ok (.aload_n 0, 1) := by decide +kernel
theorem dN_init_149 : decode bN_init 149 = .ok (.iconst 0, 1) := by decide +kernel
theorem dN_init_150 : decode bN_init 150 = .ok (.putfield 58, 3) := by decide +kernel
theorem dN_init_153 : decode bN_init 153 = .ok (.aload_n 0, 1) := by decide +kernel
theorem dN_init_154 : decode bN_init 154 = .ok (.bipush 12, 2) := by decide +kernel
theorem dN_init_156 : decode bN_init 156 = .ok (.newarray .int, 2) := by decide +kernel
theorem dN_init_158 : decode bN_init 158 = .ok (.putfield 61, 3) := by decide +kernel
theorem dN_init_161 : decode bN_init 161 = .ok (.aload_n 0, 1) := by decide +kernel
theorem dN_init_162 : decode bN_init 162 = .ok (.bipush 12, 2) := by decide +kernel
theorem dN_init_164 : decode bN_init 164 = .ok (.newarray .int, 2) := by decide +kernel
theorem dN_init_166 : decode bN_init 166 = .ok (.putfield 64, 3) := by decide +kernel
theorem dN_init_169 : decode bN_init 169 = .ok (.aload_n 0, 1) := by decide +kernel
theorem dN_init_170 : decode bN_init 170 = .ok (.bipush 12, 2) := by decide +kernel
theorem dN_init_172 : decode bN_init 172 = .ok (.newarray .int, 2) := by decide +kernel
theorem dN_init_174 : decode bN_init 174 = .ok (.putfield 67, 3) := by decide +kernel
theorem dN_init_177 : decode bN_init 177 = .ok (.aload_n 0, 1) := by decide +kernel
theorem dN_init_178 : decode bN_init 178 = .ok (.bipush 12, 2) := by decide +kernel
theorem dN_init_180 : decode bN_init 180 = .ok (.newarray .int, 2) := by decide +kernel
theorem dN_init_182 : decode bN_init 182 = .ok (.putfield 70, 3) := by decide +kernel
theorem dN_init_185 : decode bN_init 185 = .ok (.aload_n 0, 1) := by decide +kernel
theorem dN_init_186 : decode bN_init 186 = .ok (.bipush 12, 2) := by decide +kernel
theorem dN_init_188 : decode bN_init 188 = .ok (.newarray .int, 2) := by decide +kernel
theorem dN_init_190 : decode bN_init 190 = .ok (.putfield 73, 3) := by decide +kernel
theorem dN_init_193 : decode bN_init 193 = .ok (.aload_n 0, 1) := by decide +kernel
theorem dN_init_194 : decode bN_init 194 = .ok (.bipush 12, 2) := by decide +kernel
theorem dN_init_196 : decode bN_init 196 = .ok (.newarray .int, 2) := by decide +kernel
theorem dN_init_198 : decode bN_init 198 = .ok (.putfield 76, 3) := by decide +kernel
theorem dN_init_201 : decode bN_init 201 = .ok (.aload_n 0, 1) := by decide +kernel
theorem dN_init_202 : decode bN_init 202 = .ok (.iconst 0, 1) := by decide +kernel
theorem dN_init_203 : decode bN_init 203 = .ok (.putfield 79, 3) := by decide +kernel
theorem dN_init_206 : decode bN_init 206 = .ok (.return_, 1) := by decide +kernel
theorem dN_wall_0 : decode bN_wall 0 = .ok (.aload_n 0, 1) := by decide +kernel
theorem dN_wall_1 : decode bN_wall 1 = .ok (.iload_n 1, 1) := by decide +kernel
theorem dN_wall_2 : decode bN_wall 2 = .ok (.iload_n 2, 1) := by decide +kernel
theorem dN_wall_3 : decode bN_wall 3 = .ok (.invokevirtual 82, 3) := by decide +kernel
theorem dN_wall_6 : decode bN_wall 6 = .ok (.aload_n 0, 1) := by decide +kernel
theorem dN_wall_7 : decode bN_wall 7 = .ok (.iload_n 1, 1) := by decide +kernel
theorem dN_wall_8 : decode bN_wall 8 = .ok (.iload_n 2, 1) := by decide +kernel
theorem dN_wall_9 : decode bN_wall 9 = .ok (.invokevirtual 86, 3) := by decide +kernel
theorem dN_wall_12 : decode bN_wall 12 = .ok (.istore 4, 2) := by decide +kernel
theorem dN_wall_14 : decode bN_wall 14 = .ok (.aload_n 0, 1) := by decide +kernel
theorem dN_wall_15 : decode bN_wall 15 = .ok (.getfield 25, 3) := by decide +kernel
theorem dN_wall_18 : decode bN_wall 18 = .ok (.iload_n 1, 1) := by decide +kernel
theorem dN_wall_19 : decode bN_wall 19 = .ok (.iload_n 2, 1) := by decide +kernel
theorem dN_wall_20 : decode bN_wall 20 = .ok (.invokestatic 90, 3) := by decide +kernel
theorem dN_wall_23 : decode bN_wall 23 = .ok (.iload_n 3, 1) := by decide +kernel
theorem dN_wall_24 : decode bN_wall 24 = .ok (.bastore, 1) := by decide +kernel
theorem dN_wall_25 : decode bN_wall 25 = .ok (.aload_n 0, 1) := by decide +kernel
theorem dN_wall_26 : decode bN_wall 26 = .ok (.iconst 1, 1) := by decide +kernel
theorem dN_wall_27 : decode bN_wall 27 = .ok (.putfield 45, 3) := by decide +kernel
theorem dN_wall_30 : decode bN_wall 30 = .ok (.iload 4, 2) := by decide +kernel
theorem dN_wall_32 : decode bN_wall 32 = .ok (.ireturn, 1) := by decide +kernel
theorem dN_reach_0 : decode bN_reach 0 = .ok (.iload_n 1, 1) := by decide +kernel
theorem dN_reach_1 : decode bN_reach 1 = .ok (.iconst 1, 1) := by decide +kernel
theorem dN_reach_2 : decode bN_reach 2 = .ok (.if_icmp .lt 10, 3) := by decide +kernel
theorem dN_reach_5 : decode bN_reach 5 = .ok (.iload_n 1, 1) := by decide +kernel
theorem dN_reach_6 : decode bN_reach 6 = .ok (.sipush 400, 3) := by decide +kernel
theorem dN_reach_9 : decode bN_reach 9 = .ok (.if_icmp .le 13, 3) := by decide +kernel
theorem dN_reach_12 : decode bN_reach 12 = .ok (.new 93, 3) := by decide +kernel
theorem dN_reach_15 : decode bN_reach 15 = .ok (.dup, 1) := by decide +kernel
theorem dN_reach_16 : decode bN_reach 16 = .ok (.ldc 95, 2) := by decide +kernel
theorem dN_reach_18 : decode bN_reach 18 = .ok (.invokespecial 97, 3) := by decide +kernel
theorem dN_reach_21 : decode bN_reach 21 = .ok (.athrow, 1) := by decide +kernel
theorem dN_reach_22 : decode bN_reach 22 = .ok (.aload_n 0, 1) := by decide +kernel
theorem dN_reach_23 : decode bN_reach 23 = .ok (.getfield 29, 3) := by decide +kernel
theorem dN_reach_26 : decode bN_reach 26 = .ok (.istore_n 2, 1) := by decide +kernel
theorem dN_reach_27 : decode bN_reach 27 = .ok (.aload_n 0, 1) := by decide +kernel
theorem dN_reach_28 : decode bN_reach 28 = .ok (.iload_n 1, 1) := by decide +kernel
theorem dN_reach_29 : decode bN_reach 29 = .ok (.putfield 29, 3) := by decide +kernel
theorem dN_reach_32 : decode bN_reach 32 = .ok (.aload_n 0, 1) := by decide +kernel
theorem dN_reach_33 : decode bN_reach 33 = .ok (.iconst 1, 1) := by decide +kernel
theorem dN_reach_34 : decode bN_reach 34 = .ok (.putfield 45, 3) := by decide +kernel
theorem dN_reach_37 : decode bN_reach 37 = .ok (.iload_n 2, 1) := by decide +kernel
theorem dN_reach_38 : decode bN_reach 38 = .ok (.ireturn, 1) := by decide +kernel
theorem dN_place_0 : decode bN_place 0 = .ok (.aload_n 0, 1) := by decide +kernel
theorem dN_place_1 : decode bN_place 1 = .ok (.iload_n 1, 1) := by decide +kernel
theorem dN_place_2 : decode bN_place 2 = .ok (.iload_n 2, 1) := by decide +kernel
theorem dN_place_3 : decode bN_place 3 = .ok (.invokevirtual 82, 3) := by decide +kernel
theorem dN_place_6 : decode bN_place 6 = .ok (.aload_n 0, 1) := by decide +kernel
theorem dN_place_7 : decode bN_place 7 = .ok (.iload_n 1, 1) := by decide +kernel
theorem dN_place_8 : decode bN_place 8 = .ok (.iload_n 2, 1) := by decide +kernel
theorem dN_place_9 : decode bN_place 9 = .ok (.invokevirtual 86, 3) := by decide +kernel
theorem dN_place_12 : decode bN_place 12 = .ok (.ifCond .eq 13, 3) := by decide +kernel
theorem dN_place_15 : decode bN_place 15 = .ok (.new 100, 3) := by decide +kernel
theorem dN_place_18 : decode bN_place 18 = .ok (.dup, 1) := by decide +kernel
theorem dN_place_19 : decode bN_place 19 = .ok (.ldc 102, 2) := by decide +kernel
theorem dN_place_21 : decode bN_place 21 = .ok (.invokespecial 104, 3) := by decide +kernel
theorem dN_place_24 : decode bN_place 24 = .ok (.athrow, 1) := by decide +kernel
theorem dN_place_25 : decode bN_place 25 = .ok (.aload_n 0, 1) := by decide +kernel
theorem dN_place_26 : decode bN_place 26 = .ok (.iload_n 1, 1) := by decide +kernel
theorem dN_place_27 : decode bN_place 27 = .ok (.iload_n 2, 1) := by decide +kernel
theorem dN_place_28 : decode bN_place 28 = .ok (.invokevirtual 105, 3) := by decide +kernel
theorem dN_place_31 : decode bN_place 31 = .ok (.ifCond .eq 13, 3) := by decide +kernel
theorem dN_place_34 : decode bN_place 34 = .ok (.new 100, 3) := by decide +kernel
theorem dN_place_37 : decode bN_place 37 = .ok (.dup, 1) := by decide +kernel
theorem dN_place_38 : decode bN_place 38 = .ok (.ldc 108, 2) := by decide +kernel
theorem dN_place_40 : decode bN_place 40 = .ok (.invokespecial 104, 3) := by decide +kernel
theorem dN_place_43 : decode bN_place 43 = .ok (.athrow, 1) := by decide +kernel
theorem dN_place_44 : decode bN_place 44 = .ok (.aload_n 0, 1) := by decide +kernel
theorem dN_place_45 : decode bN_place 45 = .ok (.getfield 39, 3) := by decide +kernel
theorem dN_place_48 : decode bN_place 48 = .ok (.bipush 12, 2) := by decide +kernel
theorem dN_place_50 : decode bN_place 50 = .ok (.if_icmp .lt 13, 3) := by decide +kernel
theorem dN_place_53 : decode bN_place 53 = .ok (.new 100, 3) := by decide +kernel
theorem dN_place_56 : decode bN_place 56 = .ok (.dup, 1) := by decide +kernel
theorem dN_place_57 : decode bN_place 57 = .ok (.ldc 110, 2) := by decide +kernel
theorem dN_place_59 : decode bN_place 59 = .ok (.invokespecial 104, 3) := by decide +kernel
theorem dN_place_62 : decode bN_place 62 = .ok (.athrow, 1) := by decide +kernel
theorem dN_place_63 : decode bN_place 63 = .ok (.aload_n 0, 1) := by decide +kernel
theorem dN_place_64 : decode bN_place 64 = .ok (.getfield 39, 3) := by decide +kernel
theorem dN_place_67 : decode bN_place 67 = .ok (.istore_n 3, 1) := by decide +kernel
theorem dN_place_68 : decode bN_place 68 = .ok (.aload_n 0, 1) := by decide +kernel
theorem dN_place_69 : decode bN_place 69 = .ok (.getfield 32, 3) := by decide +kernel
theorem dN_place_72 : decode bN_place 72 = .ok (.iload_n 3, 1) := by decide +kernel
theorem dN_place_73 : decode bN_place 73 = .ok (.iload_n 1, 1) := by decide +kernel
theorem dN_place_74 : decode bN_place 74 = .ok (.iastore, 1) := by decide +kernel
theorem dN_place_75 : decode bN_place 75 = .ok (.aload_n 0, 1) := by decide +kernel
theorem dN_place_76 : decode bN_place 76 = .ok (.getfield 36, 3) := by decide +kernel
theorem dN_place_79 : decode bN_place 79 = .ok (.iload_n 3, 1) := by decide +kernel
theorem dN_place_80 : decode bN_place 80 = .ok (.iload_n 2, 1) := by decide +kernel
theorem dN_place_81 : decode bN_place 81 = .ok (.iastore, 1) := by decide +kernel
theorem dN_place_82 : decode bN_place 82 = .ok (.aload_n 0, 1) := by decide +kernel
theorem dN_place_83 : decode bN_place 83 = .ok (.dup, 1) := by decide +kernel
theorem dN_place_84 : decode bN_place 84 = .ok (.getfield 39, 3) := by decide +kernel
theorem dN_place_87 : decode bN_place 87 = .ok (.iconst 1, 1) := by decide +kernel
theorem dN_place_88 : decode bN_place 88 = .ok (.iadd, 1) := by decide +kernel
theorem dN_place_89 : decode bN_place 89 = .ok (.putfield 39, 3) := by decide +kernel
theorem dN_place_92 : decode bN_place 92 = .ok (.aload_n 0, 1) := by decide +kernel
theorem dN_place_93 : decode bN_place 93 = .ok (.iconst 1, 1) := by decide +kernel
theorem dN_place_94 : decode bN_place 94 = .ok (.putfield 45, 3) := by decide +kernel
theorem dN_place_97 : decode bN_place 97 = .ok (.iload_n 3, 1) := by decide +kernel
theorem dN_place_98 : decode bN_place 98 = .ok (.ireturn, 1) := by decide +kernel
theorem dN_seen_0 : decode bN_seen 0 = .ok (.aload_n 0, 1) := by decide +kernel
theorem dN_seen_1 : decode bN_seen 1 = .ok (.iload_n 1, 1) := by decide +kernel
theorem dN_seen_2 : decode bN_seen 2 = .ok (.iload_n 2, 1) := by decide +kernel
theorem dN_seen_3 : decode bN_seen 3 = .ok (.invokevirtual 82, 3) := by decide +kernel
theorem dN_seen_6 : decode bN_seen 6 = .ok (.aload_n 0, 1) := by decide +kernel
theorem dN_seen_7 : decode bN_seen 7 = .ok (.iload_n 3, 1) := by decide +kernel
theorem dN_seen_8 : decode bN_seen 8 = .ok (.iload 4, 2) := by decide +kernel
theorem dN_seen_10 : decode bN_seen 10 = .ok (.invokevirtual 82, 3) := by decide +kernel
theorem dN_seen_13 : decode bN_seen 13 = .ok (.aload_n 0, 1) := by decide +kernel
theorem dN_seen_14 : decode bN_seen 14 = .ok (.iload_n 1, 1) := by decide +kernel
theorem dN_seen_15 : decode bN_seen 15 = .ok (.iload_n 2, 1) := by decide +kernel
theorem dN_seen_16 : decode bN_seen 16 = .ok (.iload_n 3, 1) := by decide +kernel
theorem dN_seen_17 : decode bN_seen 17 = .ok (.iload 4, 2) := by decide +kernel
theorem dN_seen_19 : decode bN_seen 19 = .ok (.invokevirtual 112, 3) := by decide +kernel
theorem dN_seen_22 : decode bN_seen 22 = .ok (.ireturn, 1) := by decide +kernel
theorem dN_reached_0 : decode bN_reached 0 = .ok (.aload_n 0, 1) := by decide +kernel
theorem dN_reached_1 : decode bN_reached 1 = .ok (.iload_n 1, 1) := by decide +kernel
theorem dN_reached_2 : decode bN_reached 2 = .ok (.invokevirtual 116, 3) := by decide +kernel
theorem dN_reached_5 : decode bN_reached 5 = .ok (.aload_n 0, 1) := by decide +kernel
theorem dN_reached_6 : decode bN_reached 6 = .ok (.invokevirtual 120, 3) := by decide +kernel
theorem dN_reached_9 : decode bN_reached 9 = .ok (.iconst 0, 1) := by decide +kernel
theorem dN_reached_10 : decode bN_reached 10 = .ok (.istore_n 2, 1) := by decide +kernel
theorem dN_reached_11 : decode bN_reached 11 = .ok (.iconst 0, 1) := by decide +kernel
theorem dN_reached_12 : decode bN_reached 12 = .ok (.istore_n 3, 1) := by decide +kernel
theorem dN_reached_13 : decode bN_reached 13 = .ok (.iload_n 3, 1) := by decide +kernel
theorem dN_reached_14 : decode bN_reached 14 = .ok (.aload_n 0, 1) := by decide +kernel
theorem dN_reached_15 : decode bN_reached 15 = .ok (.getfield 42, 3) := by decide +kernel
theorem dN_reached_18 : decode bN_reached 18 = .ok (.arraylength, 1) := by decide +kernel
theorem dN_reached_19 : decode bN_reached 19 = .ok (.if_icmp .ge 25, 3) := by decide +kernel
theorem dN_reached_22 : decode bN_reached 22 = .ok (.aload_n 0, 1) := by decide +kernel
theorem dN_reached_23 : decode bN_reached 23 = .ok (.getfield 42, 3) := by decide +kernel
theorem dN_reached_26 : decode bN_reached 26 = .ok (.iload_n 3, 1) := by decide +kernel
theorem dN_reached_27 : decode bN_reached 27 = .ok (.iaload, 1) := by decide +kernel
theorem dN_reached_28 : decode bN_reached 28 = .ok (.iload_n 1, 1) := by decide +kernel
theorem dN_reached_29 : decode bN_reached 29 = .ok (.invokestatic 123, 3) := by decide +kernel
theorem dN_reached_32 : decode bN_reached 32 = .ok (.ifCond .eq 6, 3) := by decide +kernel
theorem dN_reached_35 : decode bN_reached 35 = .ok (.iinc 2 1, 3) := by decide +kernel
theorem dN_reached_38 : decode bN_reached 38 = .ok (.iinc 3 1, 3) := by decide +kernel
theorem dN_reached_41 : decode bN_reached 41 = .ok (.goto (-28), 3) := by decide +kernel
theorem dN_reached_44 : decode bN_reached 44 = .ok (.iload_n 2, 1) := by decide +kernel
theorem dN_reached_45 : decode bN_reached 45 = .ok (.ireturn, 1) := by decide +kernel
theorem dN_left_0 : decode bN_left 0 = .ok (.aload_n 0, 1) := by decide +kernel
theorem dN_left_1 : decode bN_left 1 = .ok (.iload_n 1, 1) := by decide +kernel
theorem dN_left_2 : decode bN_left 2 = .ok (.invokevirtual 126, 3) := by decide +kernel
theorem dN_left_5 : decode bN_left 5 = .ok (.aload_n 0, 1) := by decide +kernel
theorem dN_left_6 : decode bN_left 6 = .ok (.invokevirtual 120, 3) := by decide +kernel
theorem dN_left_9 : decode bN_left 9 = .ok (.iconst 0, 1) := by decide +kernel
theorem dN_left_10 : decode bN_left 10 = .ok (.istore_n 2, 1) := by decide +kernel
theorem dN_left_11 : decode bN_left 11 = .ok (.iconst 0, 1) := by decide +kernel
theorem dN_left_12 : decode bN_left 12 = .ok (.istore_n 3, 1) := by decide +kernel
theorem dN_left_13 : decode bN_left 13 = .ok (.iload_n 3, 1) := by decide +kernel
theorem dN_left_14 : decode bN_left 14 = .ok (.aload_n 0, 1) := by decide +kernel
theorem dN_left_15 : decode bN_left 15 = .ok (.getfield 25, 3) := by decide +kernel
theorem dN_left_18 : decode bN_left 18 = .ok (.arraylength, 1) := by decide +kernel
theorem dN_left_19 : decode bN_left 19 = .ok (.if_icmp .ge 21, 3) := by decide +kernel
theorem dN_left_22 : decode bN_left 22 = .ok (.aload_n 0, 1) := by decide +kernel
theorem dN_left_23 : decode bN_left 23 = .ok (.iload_n 3, 1) := by decide +kernel
theorem dN_left_24 : decode bN_left 24 = .ok (.iload_n 1, 1) := by decide +kernel
theorem dN_left_25 : decode bN_left 25 = .ok (.invokevirtual 129, 3) := by decide +kernel
theorem dN_left_28 : decode bN_left 28 = .ok (.ifCond .eq 6, 3) := by decide +kernel
theorem dN_left_31 : decode bN_left 31 = .ok (.iinc 2 1, 3) := by decide +kernel
theorem dN_left_34 : decode bN_left 34 = .ok (.iinc 3 1, 3) := by decide +kernel
theorem dN_left_37 : decode bN_left 37 = .ok (.goto (-24), 3) := by decide +kernel
theorem dN_left_40 : decode bN_left 40 = .ok (.iload_n 2, 1) := by decide +kernel
theorem dN_left_41 : decode bN_left 41 = .ok (.ireturn, 1) := by decide +kernel
theorem dN_dry_0 : decode bN_dry 0 = .ok (.aload_n 0, 1) := by decide +kernel
theorem dN_dry_1 : decode bN_dry 1 = .ok (.iload_n 1, 1) := by decide +kernel
theorem dN_dry_2 : decode bN_dry 2 = .ok (.invokevirtual 126, 3) := by decide +kernel
theorem dN_dry_5 : decode bN_dry 5 = .ok (.iload_n 2, 1) := by decide +kernel
theorem dN_dry_6 : decode bN_dry 6 = .ok (.ifCond .ge 13, 3) := by decide +kernel
theorem dN_dry_9 : decode bN_dry 9 = .ok (.new 93, 3) := by decide +kernel
theorem dN_dry_12 : decode bN_dry 12 = .ok (.dup, 1) := by decide +kernel
theorem dN_dry_13 : decode bN_dry 13 = .ok (.ldc 132, 2) := by decide +kernel
theorem dN_dry_15 : decode bN_dry 15 = .ok (.invokespecial 97, 3) := by decide +kernel
theorem dN_dry_18 : decode bN_dry 18 = .ok (.athrow, 1) := by decide +kernel
theorem dN_dry_19 : decode bN_dry 19 = .ok (.aload_n 0, 1) := by decide +kernel
theorem dN_dry_20 : decode bN_dry 20 = .ok (.invokevirtual 120, 3) := by decide +kernel
theorem dN_dry_23 : decode bN_dry 23 = .ok (.aload_n 0, 1) := by decide +kernel
theorem dN_dry_24 : decode bN_dry 24 = .ok (.iload_n 1, 1) := by decide +kernel
theorem dN_dry_25 : decode bN_dry 25 = .ok (.iload_n 2, 1) := by decide +kernel
theorem dN_dry_26 : decode bN_dry 26 = .ok (.invokevirtual 134, 3) := by decide +kernel
theorem dN_dry_29 : decode bN_dry 29 = .ok (.istore_n 3, 1) := by decide +kernel
theorem dN_dry_30 : decode bN_dry 30 = .ok (.iload_n 3, 1) := by decide +kernel
theorem dN_dry_31 : decode bN_dry 31 = .ok (.iconst (-1), 1) := by decide +kernel
theorem dN_dry_32 : decode bN_dry 32 = .ok (.if_icmp .ne 7, 3) := by decide +kernel
theorem dN_dry_35 : decode bN_dry 35 = .ok (.iconst (-1), 1) := by decide +kernel
theorem dN_dry_36 : decode bN_dry 36 = .ok (.goto 15, 3) := by decide +kernel
theorem dN_dry_39 : decode bN_dry 39 = .ok (.bipush 100, 2) := by decide +kernel
theorem dN_dry_41 : decode bN_dry 41 = .ok (.iload_n 3, 1) := by decide +kernel
theorem dN_dry_42 : decode bN_dry 42 = .ok (.bipush 16, 2) := by decide +kernel
theorem dN_dry_44 : decode bN_dry 44 = .ok (.idiv, 1) := by decide +kernel
theorem dN_dry_45 : decode bN_dry 45 = .ok (.imul, 1) := by decide +kernel
theorem dN_dry_46 : decode bN_dry 46 = .ok (.iload_n 3, 1) := by decide +kernel
theorem dN_dry_47 : decode bN_dry 47 = .ok (.bipush 16, 2) := by decide +kernel
theorem dN_dry_49 : decode bN_dry 49 = .ok (.irem, 1) := by decide +kernel
theorem dN_dry_50 : decode bN_dry 50 = .ok (.iadd, 1) := by decide +kernel
theorem dN_dry_51 : decode bN_dry 51 = .ok (.ireturn, 1) := by decide +kernel
theorem dN_best_0 : decode bN_best 0 = .ok (.aload_n 0, 1) := by decide +kernel
theorem dN_best_1 : decode bN_best 1 = .ok (.invokevirtual 120, 3) := by decide +kernel
theorem dN_best_4 : decode bN_best 4 = .ok (.aload_n 0, 1) := by decide +kernel
theorem dN_best_5 : decode bN_best 5 = .ok (.invokevirtual 137, 3) := by decide +kernel
theorem dN_best_8 : decode bN_best 8 = .ok (.istore_n 1, 1) := by decide +kernel
theorem dN_best_9 : decode bN_best 9 = .ok (.aload_n 0, 1) := by decide +kernel
theorem dN_best_10 : decode bN_best 10 = .ok (.iload_n 1, 1) := by decide +kernel
theorem dN_best_11 : decode bN_best 11 = .ok (.iconst 0, 1) := by decide +kernel
theorem dN_best_12 : decode bN_best 12 = .ok (.invokevirtual 134, 3) := by decide +kernel
theorem dN_best_15 : decode bN_best 15 = .ok (.iconst (-1), 1) := by decide +kernel
theorem dN_best_16 : decode bN_best 16 = .ok (.if_icmp .eq 5, 3) := by decide +kernel
theorem dN_best_19 : decode bN_best 19 = .ok (.iconst (-1), 1) := by decide +kernel
theorem dN_best_20 : decode bN_best 20 = .ok (.ireturn, 1) := by decide +kernel
theorem dN_best_21 : decode bN_best 21 = .ok (.iload_n 1, 1) := by decide +kernel
theorem dN_best_22 : decode bN_best 22 = .ok (.istore_n 2, 1) := by decide +kernel
theorem dN_best_23 : decode bN_best 23 = .ok (.aload_n 0, 1) := by decide +kernel
theorem dN_best_24 : decode bN_best 24 = .ok (.getfield 39, 3) := by decide +kernel
theorem dN_best_27 : decode bN_best 27 = .ok (.iconst 1, 1) := by decide +kernel
theorem dN_best_28 : decode bN_best 28 = .ok (.iadd, 1) := by decide +kernel
theorem dN_best_29 : decode bN_best 29 = .ok (.istore_n 3, 1) := by decide +kernel
theorem dN_best_30 : decode bN_best 30 = .ok (.iconst 0, 1) := by decide +kernel
theorem dN_best_31 : decode bN_best 31 = .ok (.istore 4, 2) := by decide +kernel
theorem dN_best_33 : decode bN_best 33 = .ok (.iconst 0, 1) := by decide +kernel
theorem dN_best_34 : decode bN_best 34 = .ok (.istore 5, 2) := by decide +kernel
theorem dN_best_36 : decode bN_best 36 = .ok (.iload 5, 2) := by decide +kernel
theorem dN_best_38 : decode bN_best 38 = .ok (.iload_n 1, 1) := by decide +kernel
theorem dN_best_39 : decode bN_best 39 = .ok (.if_icmp .gt 61, 3) := by decide +kernel
theorem dN_best_42 : decode bN_best 42 = .ok (.iload 5, 2) := by decide +kernel
theorem dN_best_44 : decode bN_best 44 = .ok (.invokestatic 141, 3) := by decide +kernel
theorem dN_best_47 : decode bN_best 47 = .ok (.istore 6, 2) := by decide +kernel
theorem dN_best_49 : decode bN_best 49 = .ok (.iload 6, 2) := by decide +kernel
theorem dN_best_51 : decode bN_best 51 = .ok (.iload_n 3, 1) := by decide +kernel
theorem dN_best_52 : decode bN_best 52 = .ok (.if_icmp .ge 42, 3) := by decide +kernel
theorem dN_best_55 : decode bN_best 55 = .ok (.aload_n 0, 1) := by decide +kernel
theorem dN_best_56 : decode bN_best 56 = .ok (.iload 4, 2) := by decide +kernel
theorem dN_best_58 : decode bN_best 58 = .ok (.iload 5, 2) := by decide +kernel
theorem dN_best_60 : decode bN_best 60 = .ok (.invokevirtual 129, 3) := by decide +kernel
theorem dN_best_63 : decode bN_best 63 = .ok (.ifCond .ne 31, 3) := by decide +kernel
theorem dN_best_66 : decode bN_best 66 = .ok (.aload_n 0, 1) := by decide +kernel
theorem dN_best_67 : decode bN_best 67 = .ok (.iload 5, 2) := by decide +kernel
theorem dN_best_69 : decode bN_best 69 = .ok (.iconst 0, 1) := by decide +kernel
theorem dN_best_70 : decode bN_best 70 = .ok (.invokevirtual 134, 3) := by decide +kernel
theorem dN_best_73 : decode bN_best 73 = .ok (.istore 7, 2) := by decide +kernel
theorem dN_best_75 : decode bN_best 75 = .ok (.iload 7, 2) := by decide +kernel
theorem dN_best_77 : decode bN_best 77 = .ok (.iconst (-1), 1) := by decide +kernel
theorem dN_best_78 : decode bN_best 78 = .ok (.if_icmp .ne 12, 3) := by decide +kernel
theorem dN_best_81 : decode bN_best 81 = .ok (.iload 5, 2) := by decide +kernel
theorem dN_best_83 : decode bN_best 83 = .ok (.istore_n 2, 1) := by decide +kernel
theorem dN_best_84 : decode bN_best 84 = .ok (.iload 6, 2) := by decide +kernel
theorem dN_best_86 : decode bN_best 86 = .ok (.istore_n 3, 1) := by decide +kernel
theorem dN_best_87 : decode bN_best 87 = .ok (.goto 7, 3) := by decide +kernel
theorem dN_best_90 : decode bN_best 90 = .ok (.iload 7, 2) := by decide +kernel
theorem dN_best_92 : decode bN_best 92 = .ok (.istore 4, 2) := by decide +kernel
theorem dN_best_94 : decode bN_best 94 = .ok (.iinc 5 1, 3) := by decide +kernel
theorem dN_best_97 : decode bN_best 97 = .ok (.goto (-61), 3) := by decide +kernel
theorem dN_best_100 : decode bN_best 100 = .ok (.iload_n 2, 1) := by decide +kernel
theorem dN_best_101 : decode bN_best 101 = .ok (.ireturn, 1) := by decide +kernel
theorem dN_size_0 : decode bN_size 0 = .ok (.iload_n 1, 1) := by decide +kernel
theorem dN_size_1 : decode bN_size 1 = .ok (.iconst 1, 1) := by decide +kernel
theorem dN_size_2 : decode bN_size 2 = .ok (.if_icmp .lt 9, 3) := by decide +kernel
theorem dN_size_5 : decode bN_size 5 = .ok (.iload_n 1, 1) := by decide +kernel
theorem dN_size_6 : decode bN_size 6 = .ok (.bipush 12, 2) := by decide +kernel
theorem dN_size_8 : decode bN_size 8 = .ok (.if_icmp .le 13, 3) := by decide +kernel
theorem dN_size_11 : decode bN_size 11 = .ok (.new 93, 3) := by decide +kernel
theorem dN_size_14 : decode bN_size 14 = .ok (.dup, 1) := by decide +kernel
theorem dN_size_15 : decode bN_size 15 = .ok (.ldc 147, 2) := by decide +kernel
theorem dN_size_17 : decode bN_size 17 = .ok (.invokespecial 97, 3) := by decide +kernel
theorem dN_size_20 : decode bN_size 20 = .ok (.athrow, 1) := by decide +kernel
theorem dN_size_21 : decode bN_size 21 = .ok (.iload_n 2, 1) := by decide +kernel
theorem dN_size_22 : decode bN_size 22 = .ok (.ifCond .lt 10, 3) := by decide +kernel
theorem dN_size_25 : decode bN_size 25 = .ok (.iload_n 2, 1) := by decide +kernel
theorem dN_size_26 : decode bN_size 26 = .ok (.sipush 1000, 3) := by decide +kernel
theorem dN_size_29 : decode bN_size 29 = .ok (.if_icmp .le 13, 3) := by decide +kernel
theorem dN_size_32 : decode bN_size 32 = .ok (.new 93, 3) := by decide +kernel
theorem dN_size_35 : decode bN_size 35 = .ok (.dup, 1) := by decide +kernel
theorem dN_size_36 : decode bN_size 36 = .ok (.ldc 149, 2) := by decide +kernel
theorem dN_size_38 : decode bN_size 38 = .ok (.invokespecial 97, 3) := by decide +kernel
theorem dN_size_41 : decode bN_size 41 = .ok (.athrow, 1) := by decide +kernel
theorem dN_size_42 : decode bN_size 42 = .ok (.aload_n 0, 1) := by decide +kernel
theorem dN_size_43 : decode bN_size 43 = .ok (.getfield 49, 3) := by decide +kernel
theorem dN_size_46 : decode bN_size 46 = .ok (.iload_n 1, 1) := by decide +kernel
theorem dN_size_47 : decode bN_size 47 = .ok (.iaload, 1) := by decide +kernel
theorem dN_size_48 : decode bN_size 48 = .ok (.iconst (-1), 1) := by decide +kernel
theorem dN_size_49 : decode bN_size 49 = .ok (.if_icmp .ne 13, 3) := by decide +kernel
theorem dN_size_52 : decode bN_size 52 = .ok (.aload_n 0, 1) := by decide +kernel
theorem dN_size_53 : decode bN_size 53 = .ok (.dup, 1) := by decide +kernel
theorem dN_size_54 : decode bN_size 54 = .ok (.getfield 58, 3) := by decide +kernel
theorem dN_size_57 : decode bN_size 57 = .ok (.iconst 1, 1) := by decide +kernel
theorem dN_size_58 : decode bN_size 58 = .ok (.iadd, 1) := by decide +kernel
theorem dN_size_59 : decode bN_size 59 = .ok (.putfield 58, 3) := by decide +kernel
theorem dN_size_62 : decode bN_size 62 = .ok (.aload_n 0, 1) := by decide +kernel
theorem dN_size_63 : decode bN_size 63 = .ok (.getfield 49, 3) := by decide +kernel
theorem dN_size_66 : decode bN_size 66 = .ok (.iload_n 1, 1) := by decide +kernel
theorem dN_size_67 : decode bN_size 67 = .ok (.iload_n 2, 1) := by decide +kernel
theorem dN_size_68 : decode bN_size 68 = .ok (.iastore, 1) := by decide +kernel
theorem dN_size_69 : decode bN_size 69 = .ok (.aload_n 0, 1) := by decide +kernel
theorem dN_size_70 : decode bN_size 70 = .ok (.getfield 58, 3) := by decide +kernel
theorem dN_size_73 : decode bN_size 73 = .ok (.ireturn, 1) := by decide +kernel
theorem dN_pipes_0 : decode bN_pipes 0 = .ok (.aload_n 0, 1) := by decide +kernel
theorem dN_pipes_1 : decode bN_pipes 1 = .ok (.iload_n 1, 1) := by decide +kernel
theorem dN_pipes_2 : decode bN_pipes 2 = .ok (.invokevirtual 126, 3) := by decide +kernel
theorem dN_pipes_5 : decode bN_pipes 5 = .ok (.aload_n 0, 1) := by decide +kernel
theorem dN_pipes_6 : decode bN_pipes 6 = .ok (.iload_n 1, 1) := by decide +kernel
theorem dN_pipes_7 : decode bN_pipes 7 = .ok (.invokevirtual 151, 3) := by decide +kernel
theorem dN_pipes_10 : decode bN_pipes 10 = .ok (.iconst 0, 1) := by decide +kernel
theorem dN_pipes_11 : decode bN_pipes 11 = .ok (.istore_n 2, 1) := by decide +kernel
theorem dN_pipes_12 : decode bN_pipes 12 = .ok (.iconst 0, 1) := by decide +kernel
theorem dN_pipes_13 : decode bN_pipes 13 = .ok (.istore_n 3, 1) := by decide +kernel
theorem dN_pipes_14 : decode bN_pipes 14 = .ok (.iload_n 3, 1) := by decide +kernel
theorem dN_pipes_15 : decode bN_pipes 15 = .ok (.bipush 12, 2) := by decide +kernel
theorem dN_pipes_17 : decode bN_pipes 17 = .ok (.if_icmp .ge 26, 3) := by decide +kernel
theorem dN_pipes_20 : decode bN_pipes 20 = .ok (.iload_n 1, 1) := by decide +kernel
theorem dN_pipes_21 : decode bN_pipes 21 = .ok (.iload_n 3, 1) := by decide +kernel
theorem dN_pipes_22 : decode bN_pipes 22 = .ok (.invokestatic 123, 3) := by decide +kernel
theorem dN_pipes_25 : decode bN_pipes 25 = .ok (.ifCond .eq 12, 3) := by decide +kernel
theorem dN_pipes_28 : decode bN_pipes 28 = .ok (.iload_n 2, 1) := by decide +kernel
theorem dN_pipes_29 : decode bN_pipes 29 = .ok (.aload_n 0, 1) := by decide +kernel
theorem dN_pipes_30 : decode bN_pipes 30 = .ok (.getfield 64, 3) := by decide +kernel
theorem dN_pipes_33 : decode bN_pipes 33 = .ok (.iload_n 3, 1) := by decide +kernel
theorem dN_pipes_34 : decode bN_pipes 34 = .ok (.iaload, 1) := by decide +kernel
theorem dN_pipes_35 : decode bN_pipes 35 = .ok (.iadd, 1) := by decide +kernel
theorem dN_pipes_36 : decode bN_pipes 36 = .ok (.istore_n 2, 1) := by decide +kernel
theorem dN_pipes_37 : decode bN_pipes 37 = .ok (.iinc 3 1, 3) := by decide +kernel
theorem dN_pipes_40 : decode bN_pipes 40 = .ok (.goto (-26), 3) := by decide +kernel
theorem dN_pipes_43 : decode bN_pipes 43 = .ok (.iload_n 2, 1) := by decide +kernel
theorem dN_pipes_44 : decode bN_pipes 44 = .ok (.ireturn, 1) := by decide +kernel
theorem dN_pipe_0 : decode bN_pipe 0 = .ok (.aload_n 0, 1) := by decide +kernel
theorem dN_pipe_1 : decode bN_pipe 1 = .ok (.iload_n 1, 1) := by decide +kernel
theorem dN_pipe_2 : decode bN_pipe 2 = .ok (.invokevirtual 126, 3) := by decide +kernel
theorem dN_pipe_5 : decode bN_pipe 5 = .ok (.aload_n 0, 1) := by decide +kernel
theorem dN_pipe_6 : decode bN_pipe 6 = .ok (.iload_n 2, 1) := by decide +kernel
theorem dN_pipe_7 : decode bN_pipe 7 = .ok (.invokevirtual 116, 3) := by decide +kernel
theorem dN_pipe_10 : decode bN_pipe 10 = .ok (.iload_n 3, 1) := by decide +kernel
theorem dN_pipe_11 : decode bN_pipe 11 = .ok (.ifCond .lt 8, 3) := by decide +kernel
theorem dN_pipe_14 : decode bN_pipe 14 = .ok (.iload_n 3, 1) := by decide +kernel
theorem dN_pipe_15 : decode bN_pipe 15 = .ok (.iconst 4, 1) := by decide +kernel
theorem dN_pipe_16 : decode bN_pipe 16 = .ok (.if_icmp .le 13, 3) := by decide +kernel
theorem dN_pipe_19 : decode bN_pipe 19 = .ok (.new 93, 3) := by decide +kernel
theorem dN_pipe_22 : decode bN_pipe 22 = .ok (.dup, 1) := by decide +kernel
theorem dN_pipe_23 : decode bN_pipe 23 = .ok (.ldc 154, 2) := by decide +kernel
theorem dN_pipe_25 : decode bN_pipe 25 = .ok (.invokespecial 97, 3) := by decide +kernel
theorem dN_pipe_28 : decode bN_pipe 28 = .ok (.athrow, 1) := by decide +kernel
theorem dN_pipe_29 : decode bN_pipe 29 = .ok (.iload_n 1, 1) := by decide +kernel
theorem dN_pipe_30 : decode bN_pipe 30 = .ok (.iload_n 2, 1) := by decide +kernel
theorem dN_pipe_31 : decode bN_pipe 31 = .ok (.invokestatic 123, 3) := by decide +kernel
theorem dN_pipe_34 : decode bN_pipe 34 = .ok (.ifCond .ne 5, 3) := by decide +kernel
theorem dN_pipe_37 : decode bN_pipe 37 = .ok (.iconst (-1), 1) := by decide +kernel
theorem dN_pipe_38 : decode bN_pipe 38 = .ok (.ireturn, 1) := by decide +kernel
theorem dN_pipe_39 : decode bN_pipe 39 = .ok (.aload_n 0, 1) := by decide +kernel
theorem dN_pipe_40 : decode bN_pipe 40 = .ok (.iload_n 1, 1) := by decide +kernel
theorem dN_pipe_41 : decode bN_pipe 41 = .ok (.invokevirtual 151, 3) := by decide +kernel
theorem dN_pipe_44 : decode bN_pipe 44 = .ok (.iload_n 3, 1) := by decide +kernel
theorem dN_pipe_45 : decode bN_pipe 45 = .ok (.tableswitch 63 0 3 #[31, 38, 45, 52], 31) := by decide +kernel
theorem dN_pipe_76 : decode bN_pipe 76 = .ok (.aload_n 0, 1) := by decide +kernel
theorem dN_pipe_77 : decode bN_pipe 77 = .ok (.getfield 61, 3) := by decide +kernel
theorem dN_pipe_80 : decode bN_pipe 80 = .ok (.iload_n 2, 1) := by decide +kernel
theorem dN_pipe_81 : decode bN_pipe 81 = .ok (.iaload, 1) := by decide +kernel
theorem dN_pipe_82 : decode bN_pipe 82 = .ok (.ireturn, 1) := by decide +kernel
theorem dN_pipe_83 : decode bN_pipe 83 = .ok (.aload_n 0, 1) := by decide +kernel
theorem dN_pipe_84 : decode bN_pipe 84 = .ok (.getfield 64, 3) := by decide +kernel
theorem dN_pipe_87 : decode bN_pipe 87 = .ok (.iload_n 2, 1) := by decide +kernel
theorem dN_pipe_88 : decode bN_pipe 88 = .ok (.iaload, 1) := by decide +kernel
theorem dN_pipe_89 : decode bN_pipe 89 = .ok (.ireturn, 1) := by decide +kernel
theorem dN_pipe_90 : decode bN_pipe 90 = .ok (.aload_n 0, 1) := by decide +kernel
theorem dN_pipe_91 : decode bN_pipe 91 = .ok (.getfield 67, 3) := by decide +kernel
theorem dN_pipe_94 : decode bN_pipe 94 = .ok (.iload_n 2, 1) := by decide +kernel
theorem dN_pipe_95 : decode bN_pipe 95 = .ok (.iaload, 1) := by decide +kernel
theorem dN_pipe_96 : decode bN_pipe 96 = .ok (.ireturn, 1) := by decide +kernel
theorem dN_pipe_97 : decode bN_pipe 97 = .ok (.aload_n 0, 1) := by decide +kernel
theorem dN_pipe_98 : decode bN_pipe 98 = .ok (.aload_n 0, 1) := by decide +kernel
theorem dN_pipe_99 : decode bN_pipe 99 = .ok (.getfield 67, 3) := by decide +kernel
theorem dN_pipe_102 : decode bN_pipe 102 = .ok (.iload_n 2, 1) := by decide +kernel
theorem dN_pipe_103 : decode bN_pipe 103 = .ok (.iaload, 1) := by decide +kernel
theorem dN_pipe_104 : decode bN_pipe 104 = .ok (.invokevirtual 156, 3) := by decide +kernel
theorem dN_pipe_107 : decode bN_pipe 107 = .ok (.ireturn, 1) := by decide +kernel
theorem dN_pipe_108 : decode bN_pipe 108 = .ok (.aload_n 0, 1) := by decide +kernel
theorem dN_pipe_109 : decode bN_pipe 109 = .ok (.getfield 70, 3) := by decide +kernel
theorem dN_pipe_112 : decode bN_pipe 112 = .ok (.iload_n 2, 1) := by decide +kernel
theorem dN_pipe_113 : decode bN_pipe 113 = .ok (.iaload, 1) := by decide +kernel
theorem dN_pipe_114 : decode bN_pipe 114 = .ok (.ireturn, 1) := by decide +kernel
theorem dN_lacks_0 : decode bN_lacks 0 = .ok (.aload_n 0, 1) := by decide +kernel
theorem dN_lacks_1 : decode bN_lacks 1 = .ok (.iload_n 1, 1) := by decide +kernel
theorem dN_lacks_2 : decode bN_lacks 2 = .ok (.invokevirtual 126, 3) := by decide +kernel
theorem dN_lacks_5 : decode bN_lacks 5 = .ok (.aload_n 0, 1) := by decide +kernel
theorem dN_lacks_6 : decode bN_lacks 6 = .ok (.iload_n 2, 1) := by decide +kernel
theorem dN_lacks_7 : decode bN_lacks 7 = .ok (.invokevirtual 116, 3) := by decide +kernel
theorem dN_lacks_10 : decode bN_lacks 10 = .ok (.iload_n 1, 1) := by decide +kernel
theorem dN_lacks_11 : decode bN_lacks 11 = .ok (.iload_n 2, 1) := by decide +kernel
theorem dN_lacks_12 : decode bN_lacks 12 = .ok (.invokestatic 123, 3) := by decide +kernel
theorem dN_lacks_15 : decode bN_lacks 15 = .ok (.ifCond .ne 5, 3) := by decide +kernel
theorem dN_lacks_18 : decode bN_lacks 18 = .ok (.iconst (-1), 1) := by decide +kernel
theorem dN_lacks_19 : decode bN_lacks 19 = .ok (.ireturn, 1) := by decide +kernel
theorem dN_lacks_20 : decode bN_lacks 20 = .ok (.aload_n 0, 1) := by decide +kernel
theorem dN_lacks_21 : decode bN_lacks 21 = .ok (.iload_n 1, 1) := by decide +kernel
theorem dN_lacks_22 : decode bN_lacks 22 = .ok (.invokevirtual 151, 3) := by decide +kernel
theorem dN_lacks_25 : decode bN_lacks 25 = .ok (.aload_n 0, 1) := by decide +kernel
theorem dN_lacks_26 : decode bN_lacks 26 = .ok (.getfield 73, 3) := by decide +kernel
theorem dN_lacks_29 : decode bN_lacks 29 = .ok (.iload_n 2, 1) := by decide +kernel
theorem dN_lacks_30 : decode bN_lacks 30 = .ok (.iaload, 1) := by decide +kernel
theorem dN_lacks_31 : decode bN_lacks 31 = .ok (.ireturn, 1) := by decide +kernel
theorem dN_worst_0 : decode bN_worst 0 = .ok (.aload_n 0, 1) := by decide +kernel
theorem dN_worst_1 : decode bN_worst 1 = .ok (.iload_n 1, 1) := by decide +kernel
theorem dN_worst_2 : decode bN_worst 2 = .ok (.invokevirtual 126, 3) := by decide +kernel
theorem dN_worst_5 : decode bN_worst 5 = .ok (.aload_n 0, 1) := by decide +kernel
theorem dN_worst_6 : decode bN_worst 6 = .ok (.iload_n 1, 1) := by decide +kernel
theorem dN_worst_7 : decode bN_worst 7 = .ok (.invokevirtual 151, 3) := by decide +kernel
theorem dN_worst_10 : decode bN_worst 10 = .ok (.iconst (-1), 1) := by decide +kernel
theorem dN_worst_11 : decode bN_worst 11 = .ok (.istore_n 2, 1) := by decide +kernel
theorem dN_worst_12 : decode bN_worst 12 = .ok (.iconst (-1), 1) := by decide +kernel
theorem dN_worst_13 : decode bN_worst 13 = .ok (.istore_n 3, 1) := by decide +kernel
theorem dN_worst_14 : decode bN_worst 14 = .ok (.iconst 0, 1) := by decide +kernel
theorem dN_worst_15 : decode bN_worst 15 = .ok (.istore 4, 2) := by decide +kernel
theorem dN_worst_17 : decode bN_worst 17 = .ok (.iload 4, 2) := by decide +kernel
theorem dN_worst_19 : decode bN_worst 19 = .ok (.bipush 12, 2) := by decide +kernel
theorem dN_worst_21 : decode bN_worst 21 = .ok (.if_icmp .ge 40, 3) := by decide +kernel
theorem dN_worst_24 : decode bN_worst 24 = .ok (.iload_n 1, 1) := by decide +kernel
theorem dN_worst_25 : decode bN_worst 25 = .ok (.iload 4, 2) := by decide +kernel
theorem dN_worst_27 : decode bN_worst 27 = .ok (.invokestatic 123, 3) := by decide +kernel
theorem dN_worst_30 : decode bN_worst 30 = .ok (.ifCond .eq 25, 3) := by decide +kernel
theorem dN_worst_33 : decode bN_worst 33 = .ok (.aload_n 0, 1) := by decide +kernel
theorem dN_worst_34 : decode bN_worst 34 = .ok (.getfield 73, 3) := by decide +kernel
theorem dN_worst_37 : decode bN_worst 37 = .ok (.iload 4, 2) := by decide +kernel
theorem dN_worst_39 : decode bN_worst 39 = .ok (.iaload, 1) := by decide +kernel
theorem dN_worst_40 : decode bN_worst 40 = .ok (.iload_n 3, 1) := by decide +kernel
theorem dN_worst_41 : decode bN_worst 41 = .ok (.if_icmp .le 14, 3) := by decide +kernel
theorem dN_worst_44 : decode bN_worst 44 = .ok (.iload 4, 2) := by decide +kernel
theorem dN_worst_46 : decode bN_worst 46 = .ok (.istore_n 2, 1) := by decide +kernel
theorem dN_worst_47 : decode bN_worst 47 = .ok (.aload_n 0, 1) := by decide +kernel
theorem dN_worst_48 : decode bN_worst 48 = .ok (.getfield 73, 3) := by decide +kernel
theorem dN_worst_51 : decode bN_worst 51 = .ok (.iload 4, 2) := by decide +kernel
theorem dN_worst_53 : decode bN_worst 53 = .ok (.iaload, 1) := by decide +kernel
theorem dN_worst_54 : decode bN_worst 54 = .ok (.istore_n 3, 1) := by decide +kernel
theorem dN_worst_55 : decode bN_worst 55 = .ok (.iinc 4 1, 3) := by decide +kernel
theorem dN_worst_58 : decode bN_worst 58 = .ok (.goto (-41), 3) := by decide +kernel
theorem dN_worst_61 : decode bN_worst 61 = .ok (.iload_n 2, 1) := by decide +kernel
theorem dN_worst_62 : decode bN_worst 62 = .ok (.ireturn, 1) := by decide +kernel
theorem dN_needCell_0 : decode bN_needCell 0 = .ok (.aload_n 0, 1) := by decide +kernel
theorem dN_needCell_1 : decode bN_needCell 1 = .ok (.iload_n 1, 1) := by decide +kernel
theorem dN_needCell_2 : decode bN_needCell 2 = .ok (.iload_n 2, 1) := by decide +kernel
theorem dN_needCell_3 : decode bN_needCell 3 = .ok (.invokevirtual 159, 3) := by decide +kernel
theorem dN_needCell_6 : decode bN_needCell 6 = .ok (.ifCond .ne 13, 3) := by decide +kernel
theorem dN_needCell_9 : decode bN_needCell 9 = .ok (.new 93, 3) := by decide +kernel
theorem dN_needCell_12 : decode bN_needCell 12 = .ok (.dup, 1) := by decide +kernel
theorem dN_needCell_13 : decode bN_needCell 13 = .ok (.ldc 162, 2) := by decide +kernel
theorem dN_needCell_15 : decode bN_needCell 15 = .ok (.invokespecial 97, 3) := by decide +kernel
theorem dN_needCell_18 : decode bN_needCell 18 = .ok (.athrow, 1) := by decide +kernel
theorem dN_needCell_19 : decode bN_needCell 19 = .ok (.return_, 1) := by decide +kernel
theorem dN_needPlace_0 : decode bN_needPlace 0 = .ok (.iload_n 1, 1) := by decide +kernel
theorem dN_needPlace_1 : decode bN_needPlace 1 = .ok (.ifCond .lt 11, 3) := by decide +kernel
theorem dN_needPlace_4 : decode bN_needPlace 4 = .ok (.iload_n 1, 1) := by decide +kernel
theorem dN_needPlace_5 : decode bN_needPlace 5 = .ok (.aload_n 0, 1) := by decide +kernel
theorem dN_needPlace_6 : decode bN_needPlace 6 = .ok (.getfield 39, 3) := by decide +kernel
theorem dN_needPlace_9 : decode bN_needPlace 9 = .ok (.if_icmp .lt 13, 3) := by decide +kernel
theorem dN_needPlace_12 : decode bN_needPlace 12 = .ok (.new 93, 3) := by decide +kernel
theorem dN_needPlace_15 : decode bN_needPlace 15 = .ok (.dup, 1) := by decide +kernel
theorem dN_needPlace_16 : decode bN_needPlace 16 = .ok (.ldc 164, 2) := by decide +kernel
theorem dN_needPlace_18 : decode bN_needPlace 18 = .ok (.invokespecial 97, 3) := by decide +kernel
theorem dN_needPlace_21 : decode bN_needPlace 21 = .ok (.athrow, 1) := by decide +kernel
theorem dN_needPlace_22 : decode bN_needPlace 22 = .ok (.return_, 1) := by decide +kernel
theorem dN_needSet_0 : decode bN_needSet 0 = .ok (.iload_n 1, 1) := by decide +kernel
theorem dN_needSet_1 : decode bN_needSet 1 = .ok (.aload_n 0, 1) := by decide +kernel
theorem dN_needSet_2 : decode bN_needSet 2 = .ok (.invokevirtual 137, 3) := by decide +kernel
theorem dN_needSet_5 : decode bN_needSet 5 = .ok (.iconst (-1), 1) := by decide +kernel
theorem dN_needSet_6 : decode bN_needSet 6 = .ok (.ixor, 1) := by decide +kernel
theorem dN_needSet_7 : decode bN_needSet 7 = .ok (.iand, 1) := by decide +kernel
theorem dN_needSet_8 : decode bN_needSet 8 = .ok (.ifCond .eq 13, 3) := by decide +kernel
theorem dN_needSet_11 : decode bN_needSet 11 = .ok (.new 93, 3) := by decide +kernel
theorem dN_needSet_14 : decode bN_needSet 14 = .ok (.dup, 1) := by decide +kernel
theorem dN_needSet_15 : decode bN_needSet 15 = .ok (.ldc 166, 2) := by decide +kernel
theorem dN_needSet_17 : decode bN_needSet 17 = .ok (.invokespecial 97, 3) := by decide +kernel
theorem dN_needSet_20 : decode bN_needSet 20 = .ok (.athrow, 1) := by decide +kernel
theorem dN_needSet_21 : decode bN_needSet 21 = .ok (.return_, 1) := by decide +kernel
theorem dN_inPlan_0 : decode bN_inPlan 0 = .ok (.iload_n 1, 1) := by decide +kernel
theorem dN_inPlan_1 : decode bN_inPlan 1 = .ok (.ifCond .lt 27, 3) := by decide +kernel
theorem dN_inPlan_4 : decode bN_inPlan 4 = .ok (.iload_n 1, 1) := by decide +kernel
theorem dN_inPlan_5 : decode bN_inPlan 5 = .ok (.aload_n 0, 1) := by decide +kernel
theorem dN_inPlan_6 : decode bN_inPlan 6 = .ok (.getfield 18, 3) := by decide +kernel
theorem dN_inPlan_9 : decode bN_inPlan 9 = .ok (.if_icmp .ge 19, 3) := by decide +kernel
theorem dN_inPlan_12 : decode bN_inPlan 12 = .ok (.iload_n 2, 1) := by decide +kernel
theorem dN_inPlan_13 : decode bN_inPlan 13 = .ok (.ifCond .lt 15, 3) := by decide +kernel
theorem dN_inPlan_16 : decode bN_inPlan 16 = .ok (.iload_n 2, 1) := by decide +kernel
theorem dN_inPlan_17 : decode bN_inPlan 17 = .ok (.aload_n 0, 1) := by decide +kernel
theorem dN_inPlan_18 : decode bN_inPlan 18 = .ok (.getfield 22, 3) := by decide +kernel
theorem dN_inPlan_21 : decode bN_inPlan 21 = .ok (.if_icmp .ge 7, 3) := by decide +kernel
theorem dN_inPlan_24 : decode bN_inPlan 24 = .ok (.iconst 1, 1) := by decide +kernel
theorem dN_inPlan_25 : decode bN_inPlan 25 = .ok (.goto 4, 3) := by decide +kernel
theorem dN_inPlan_28 : decode bN_inPlan 28 = .ok (.iconst 0, 1) := by decide +kernel
theorem dN_inPlan_29 : decode bN_inPlan 29 = .ok (.ireturn, 1) := by decide +kernel
theorem dN_cellAt_0 : decode bN_cellAt 0 = .ok (.iload_n 1, 1) := by decide +kernel
theorem dN_cellAt_1 : decode bN_cellAt 1 = .ok (.bipush 16, 2) := by decide +kernel
theorem dN_cellAt_3 : decode bN_cellAt 3 = .ok (.imul, 1) := by decide +kernel
theorem dN_cellAt_4 : decode bN_cellAt 4 = .ok (.iload_n 0, 1) := by decide +kernel
theorem dN_cellAt_5 : decode bN_cellAt 5 = .ok (.iadd, 1) := by decide +kernel
theorem dN_cellAt_6 : decode bN_cellAt 6 = .ok (.ireturn, 1) := by decide +kernel
theorem dN_isWall_0 : decode bN_isWall 0 = .ok (.aload_n 0, 1) := by decide +kernel
theorem dN_isWall_1 : decode bN_isWall 1 = .ok (.iload_n 1, 1) := by decide +kernel
theorem dN_isWall_2 : decode bN_isWall 2 = .ok (.iload_n 2, 1) := by decide +kernel
theorem dN_isWall_3 : decode bN_isWall 3 = .ok (.invokevirtual 159, 3) := by decide +kernel
theorem dN_isWall_6 : decode bN_isWall 6 = .ok (.ifCond .eq 16, 3) := by decide +kernel
theorem dN_isWall_9 : decode bN_isWall 9 = .ok (.aload_n 0, 1) := by decide +kernel
theorem dN_isWall_10 : decode bN_isWall 10 = .ok (.getfield 25, 3) := by decide +kernel
theorem dN_isWall_13 : decode bN_isWall 13 = .ok (.iload_n 1, 1) := by decide +kernel
theorem dN_isWall_14 : decode bN_isWall 14 = .ok (.iload_n 2, 1) := by decide +kernel
theorem dN_isWall_15 : decode bN_isWall 15 = .ok (.invokestatic 90, 3) := by decide +kernel
theorem dN_isWall_18 : decode bN_isWall 18 = .ok (.baload, 1) := by decide +kernel
theorem dN_isWall_19 : decode bN_isWall 19 = .ok (.ifCond .eq 7, 3) := by decide +kernel
theorem dN_isWall_22 : decode bN_isWall 22 = .ok (.iconst 1, 1) := by decide +kernel
theorem dN_isWall_23 : decode bN_isWall 23 = .ok (.goto 4, 3) := by decide +kernel
theorem dN_isWall_26 : decode bN_isWall 26 = .ok (.iconst 0, 1) := by decide +kernel
theorem dN_isWall_27 : decode bN_isWall 27 = .ok (.ireturn, 1) := by decide +kernel
theorem dN_isPlace_0 : decode bN_isPlace 0 = .ok (.iconst 0, 1) := by decide +kernel
theorem dN_isPlace_1 : decode bN_isPlace 1 = .ok (.istore_n 3, 1) := by decide +kernel
theorem dN_isPlace_2 : decode bN_isPlace 2 = .ok (.iload_n 3, 1) := by decide +kernel
theorem dN_isPlace_3 : decode bN_isPlace 3 = .ok (.bipush 12, 2) := by decide +kernel
theorem dN_isPlace_5 : decode bN_isPlace 5 = .ok (.if_icmp .ge 39, 3) := by decide +kernel
theorem dN_isPlace_8 : decode bN_isPlace 8 = .ok (.iload_n 3, 1) := by decide +kernel
theorem dN_isPlace_9 : decode bN_isPlace 9 = .ok (.aload_n 0, 1) := by decide +kernel
theorem dN_isPlace_10 : decode bN_isPlace 10 = .ok (.getfield 39, 3) := by decide +kernel
theorem dN_isPlace_13 : decode bN_isPlace 13 = .ok (.if_icmp .ge 31, 3) := by decide +kernel
theorem dN_isPlace_16 : decode bN_isPlace 16 = .ok (.aload_n 0, 1) := by decide +kernel
theorem dN_isPlace_17 : decode bN_isPlace 17 = .ok (.getfield 32, 3) := by decide +kernel
theorem dN_isPlace_20 : decode bN_isPlace 20 = .ok (.iload_n 3, 1) := by decide +kernel
theorem dN_isPlace_21 : decode bN_isPlace 21 = .ok (.iaload, 1) := by decide +kernel
theorem dN_isPlace_22 : decode bN_isPlace 22 = .ok (.iload_n 1, 1) := by decide +kernel
theorem dN_isPlace_23 : decode bN_isPlace 23 = .ok (.if_icmp .ne 15, 3) := by decide +kernel
theorem dN_isPlace_26 : decode bN_isPlace 26 = .ok (.aload_n 0, 1) := by decide +kernel
theorem dN_isPlace_27 : decode bN_isPlace 27 = .ok (.getfield 36, 3) := by decide +kernel
theorem dN_isPlace_30 : decode bN_isPlace 30 = .ok (.iload_n 3, 1) := by decide +kernel
theorem dN_isPlace_31 : decode bN_isPlace 31 = .ok (.iaload, 1) := by decide +kernel
theorem dN_isPlace_32 : decode bN_isPlace 32 = .ok (.iload_n 2, 1) := by decide +kernel
theorem dN_isPlace_33 : decode bN_isPlace 33 = .ok (.if_icmp .ne 5, 3) := by decide +kernel
theorem dN_isPlace_36 : decode bN_isPlace 36 = .ok (.iconst 1, 1) := by decide +kernel
theorem dN_isPlace_37 : decode bN_isPlace 37 = .ok (.ireturn, 1) := by decide +kernel
theorem dN_isPlace_38 : decode bN_isPlace 38 = .ok (.iinc 3 1, 3) := by decide +kernel
theorem dN_isPlace_41 : decode bN_isPlace 41 = .ok (.goto (-39), 3) := by decide +kernel
theorem dN_isPlace_44 : decode bN_isPlace 44 = .ok (.iconst 0, 1) := by decide +kernel
theorem dN_isPlace_45 : decode bN_isPlace 45 = .ok (.ireturn, 1) := by decide +kernel
theorem dN_allPlaces_0 : decode bN_allPlaces 0 = .ok (.iconst 1, 1) := by decide +kernel
theorem dN_allPlaces_1 : decode bN_allPlaces 1 = .ok (.aload_n 0, 1) := by decide +kernel
theorem dN_allPlaces_2 : decode bN_allPlaces 2 = .ok (.getfield 39, 3) := by decide +kernel
theorem dN_allPlaces_5 : decode bN_allPlaces 5 = .ok (.ishl, 1) := by decide +kernel
theorem dN_allPlaces_6 : decode bN_allPlaces 6 = .ok (.iconst 1, 1) := by decide +kernel
theorem dN_allPlaces_7 : decode bN_allPlaces 7 = .ok (.isub, 1) := by decide +kernel
theorem dN_allPlaces_8 : decode bN_allPlaces 8 = .ok (.ireturn, 1) := by decide +kernel
theorem dN_holds_0 : decode bN_holds 0 = .ok (.iload_n 0, 1) := by decide +kernel
theorem dN_holds_1 : decode bN_holds 1 = .ok (.iload_n 1, 1) := by decide +kernel
theorem dN_holds_2 : decode bN_holds 2 = .ok (.ishr, 1) := by decide +kernel
theorem dN_holds_3 : decode bN_holds 3 = .ok (.iconst 1, 1) := by decide +kernel
theorem dN_holds_4 : decode bN_holds 4 = .ok (.iand, 1) := by decide +kernel
theorem dN_holds_5 : decode bN_holds 5 = .ok (.ifCond .eq 7, 3) := by decide +kernel
theorem dN_holds_8 : decode bN_holds 8 = .ok (.iconst 1, 1) := by decide +kernel
theorem dN_holds_9 : decode bN_holds 9 = .ok (.goto 4, 3) := by decide +kernel
theorem dN_holds_12 : decode bN_holds 12 = .ok (.iconst 0, 1) := by decide +kernel
theorem dN_holds_13 : decode bN_holds 13 = .ok (.ireturn, 1) := by decide +kernel
theorem dN_lineIsFree_0 : decode bN_lineIsFree 0 = .ok (.iload_n 3, 1) := by decide +kernel
theorem dN_lineIsFree_1 : decode bN_lineIsFree 1 = .ok (.iload_n 1, 1) := by decide +kernel
theorem dN_lineIsFree_2 : decode bN_lineIsFree 2 = .ok (.isub, 1) := by decide +kernel
theorem dN_lineIsFree_3 : decode bN_lineIsFree 3 = .ok (.invokestatic 168, 3) := by decide +kernel
theorem dN_lineIsFree_6 : decode bN_lineIsFree 6 = .ok (.istore 5, 2) := by decide +kernel
theorem dN_lineIsFree_8 : decode bN_lineIsFree 8 = .ok (.iload 4, 2) := by decide +kernel
theorem dN_lineIsFree_10 : decode bN_lineIsFree 10 = .ok (.iload_n 2, 1) := by decide +kernel
theorem dN_lineIsFree_11 : decode bN_lineIsFree 11 = .ok (.isub, 1) := by decide +kernel
theorem dN_lineIsFree_12 : decode bN_lineIsFree 12 = .ok (.invokestatic 168, 3) := by decide +kernel
theorem dN_lineIsFree_15 : decode bN_lineIsFree 15 = .ok (.istore 6, 2) := by decide +kernel
theorem dN_lineIsFree_17 : decode bN_lineIsFree 17 = .ok (.iload_n 3, 1) := by decide +kernel
theorem dN_lineIsFree_18 : decode bN_lineIsFree 18 = .ok (.iload_n 1, 1) := by decide +kernel
theorem dN_lineIsFree_19 : decode bN_lineIsFree 19 = .ok (.if_icmp .ge 7, 3) := by decide +kernel
theorem dN_lineIsFree_22 : decode bN_lineIsFree 22 = .ok (.iconst (-1), 1) := by decide +kernel
theorem dN_lineIsFree_23 : decode bN_lineIsFree 23 = .ok (.goto 4, 3) := by decide +kernel
theorem dN_lineIsFree_26 : decode bN_lineIsFree 26 = .ok (.iconst 1, 1) := by decide +kernel
theorem dN_lineIsFree_27 : decode bN_lineIsFree 27 = .ok (.istore 7, 2) := by decide +kernel
theorem dN_lineIsFree_29 : decode bN_lineIsFree 29 = .ok (.iload 4, 2) := by decide +kernel
theorem dN_lineIsFree_31 : decode bN_lineIsFree 31 = .ok (.iload_n 2, 1) := by decide +kernel
theorem dN_lineIsFree_32 : decode bN_lineIsFree 32 = .ok (.if_icmp .ge 7, 3) := by decide +kernel
theorem dN_lineIsFree_35 : decode bN_lineIsFree 35 = .ok (.iconst (-1), 1) := by decide +kernel
theorem dN_lineIsFree_36 : decode bN_lineIsFree 36 = .ok (.goto 4, 3) := by decide +kernel
theorem dN_lineIsFree_39 : decode bN_lineIsFree 39 = .ok (.iconst 1, 1) := by decide +kernel
theorem dN_lineIsFree_40 : decode bN_lineIsFree 40 = .ok (.istore 8, 2) := by decide +kernel
theorem dN_lineIsFree_42 : decode bN_lineIsFree 42 = .ok (.iconst 0, 1) := by decide +kernel
theorem dN_lineIsFree_43 : decode bN_lineIsFree 43 = .ok (.istore 9, 2) := by decide +kernel
theorem dN_lineIsFree_45 : decode bN_lineIsFree 45 = .ok (.iconst 0, 1) := by decide +kernel
theorem dN_lineIsFree_46 : decode bN_lineIsFree 46 = .ok (.istore 10, 2) := by decide +kernel
theorem dN_lineIsFree_48 : decode bN_lineIsFree 48 = .ok (.iconst 0, 1) := by decide +kernel
theorem dN_lineIsFree_49 : decode bN_lineIsFree 49 = .ok (.istore 11, 2) := by decide +kernel
theorem dN_lineIsFree_51 : decode bN_lineIsFree 51 = .ok (.iload 11, 2) := by decide +kernel
theorem dN_lineIsFree_53 : decode bN_lineIsFree 53 = .ok (.iload 5, 2) := by decide +kernel
theorem dN_lineIsFree_55 : decode bN_lineIsFree 55 = .ok (.iload 6, 2) := by decide +kernel
theorem dN_lineIsFree_57 : decode bN_lineIsFree 57 = .ok (.iadd, 1) := by decide +kernel
theorem dN_lineIsFree_58 : decode bN_lineIsFree 58 = .ok (.if_icmp .gt 85, 3) := by decide +kernel
theorem dN_lineIsFree_61 : decode bN_lineIsFree 61 = .ok (.aload_n 0, 1) := by decide +kernel
theorem dN_lineIsFree_62 : decode bN_lineIsFree 62 = .ok (.iload_n 1, 1) := by decide +kernel
theorem dN_lineIsFree_63 : decode bN_lineIsFree 63 = .ok (.iload 9, 2) := by decide +kernel
theorem dN_lineIsFree_65 : decode bN_lineIsFree 65 = .ok (.iload 7, 2) := by decide +kernel
theorem dN_lineIsFree_67 : decode bN_lineIsFree 67 = .ok (.imul, 1) := by decide +kernel
theorem dN_lineIsFree_68 : decode bN_lineIsFree 68 = .ok (.iadd, 1) := by decide +kernel
theorem dN_lineIsFree_69 : decode bN_lineIsFree 69 = .ok (.iload_n 2, 1) := by decide +kernel
theorem dN_lineIsFree_70 : decode bN_lineIsFree 70 = .ok (.iload 10, 2) := by decide +kernel
theorem dN_lineIsFree_72 : decode bN_lineIsFree 72 = .ok (.iload 8, 2) := by decide +kernel
theorem dN_lineIsFree_74 : decode bN_lineIsFree 74 = .ok (.imul, 1) := by decide +kernel
theorem dN_lineIsFree_75 : decode bN_lineIsFree 75 = .ok (.iadd, 1) := by decide +kernel
theorem dN_lineIsFree_76 : decode bN_lineIsFree 76 = .ok (.invokevirtual 86, 3) := by decide +kernel
theorem dN_lineIsFree_79 : decode bN_lineIsFree 79 = .ok (.ifCond .eq 5, 3) := by decide +kernel
theorem dN_lineIsFree_82 : decode bN_lineIsFree 82 = .ok (.iconst 0, 1) := by decide +kernel
theorem dN_lineIsFree_83 : decode bN_lineIsFree 83 = .ok (.ireturn, 1) := by decide +kernel
theorem dN_lineIsFree_84 : decode bN_lineIsFree 84 = .ok (.iload 9, 2) := by decide +kernel
theorem dN_lineIsFree_86 : decode bN_lineIsFree 86 = .ok (.iload 5, 2) := by decide +kernel
theorem dN_lineIsFree_88 : decode bN_lineIsFree 88 = .ok (.if_icmp .ne 12, 3) := by decide +kernel
theorem dN_lineIsFree_91 : decode bN_lineIsFree 91 = .ok (.iload 10, 2) := by decide +kernel
theorem dN_lineIsFree_93 : decode bN_lineIsFree 93 = .ok (.iload 6, 2) := by decide +kernel
theorem dN_lineIsFree_95 : decode bN_lineIsFree 95 = .ok (.if_icmp .ne 5, 3) := by decide +kernel
theorem dN_lineIsFree_98 : decode bN_lineIsFree 98 = .ok (.iconst 1, 1) := by decide +kernel
theorem dN_lineIsFree_99 : decode bN_lineIsFree 99 = .ok (.ireturn, 1) := by decide +kernel
theorem dN_lineIsFree_100 : decode bN_lineIsFree 100 = .ok (.iconst 2, 1) := by decide +kernel
theorem dN_lineIsFree_101 : decode bN_lineIsFree 101 = .ok (.iload 9, 2) := by decide +kernel
theorem dN_lineIsFree_103 : decode bN_lineIsFree 103 = .ok (.imul, 1) := by decide +kernel
theorem dN_lineIsFree_104 : decode bN_lineIsFree 104 = .ok (.iconst 1, 1) := by decide +kernel
theorem dN_lineIsFree_105 : decode bN_lineIsFree 105 = .ok (.iadd, 1) := by decide +kernel
theorem dN_lineIsFree_106 : decode bN_lineIsFree 106 = .ok (.iload 6, 2) := by decide +kernel
theorem dN_lineIsFree_108 : decode bN_lineIsFree 108 = .ok (.imul, 1) := by decide +kernel
theorem dN_lineIsFree_109 : decode bN_lineIsFree 109 = .ok (.iconst 2, 1) := by decide +kernel
theorem dN_lineIsFree_110 : decode bN_lineIsFree 110 = .ok (.iload 10, 2) := by decide +kernel
theorem dN_lineIsFree_112 : decode bN_lineIsFree 112 = .ok (.imul, 1) := by decide +kernel
theorem dN_lineIsFree_113 : decode bN_lineIsFree 113 = .ok (.iconst 1, 1) := by decide +kernel
theorem dN_lineIsFree_114 : decode bN_lineIsFree 114 = .ok (.iadd, 1) := by decide +kernel
theorem dN_lineIsFree_115 : decode bN_lineIsFree 115 = .ok (.iload 5, 2) := by decide +kernel
theorem dN_lineIsFree_117 : decode bN_lineIsFree 117 = .ok (.imul, 1) := by decide +kernel
theorem dN_lineIsFree_118 : decode bN_lineIsFree 118 = .ok (.isub, 1) := by decide +kernel
theorem dN_lineIsFree_119 : decode bN_lineIsFree 119 = .ok (.istore 12, 2) := by decide +kernel
theorem dN_lineIsFree_121 : decode bN_lineIsFree 121 = .ok (.iload 12, 2) := by decide +kernel
theorem dN_lineIsFree_123 : decode bN_lineIsFree 123 = .ok (.ifCond .gt 6, 3) := by decide +kernel
theorem dN_lineIsFree_126 : decode bN_lineIsFree 126 = .ok (.iinc 9 1, 3) := by decide +kernel
theorem dN_lineIsFree_129 : decode bN_lineIsFree 129 = .ok (.iload 12, 2) := by decide +kernel
theorem dN_lineIsFree_131 : decode bN_lineIsFree 131 = .ok (.ifCond .lt 6, 3) := by decide +kernel
theorem dN_lineIsFree_134 : decode bN_lineIsFree 134 = .ok (.iinc 10 1, 3) := by decide +kernel
theorem dN_lineIsFree_137 : decode bN_lineIsFree 137 = .ok (.iinc 11 1, 3) := by decide +kernel
theorem dN_lineIsFree_140 : decode bN_lineIsFree 140 = .ok (.goto (-89), 3) := by decide +kernel
theorem dN_lineIsFree_143 : decode bN_lineIsFree 143 = .ok (.iconst 1, 1) := by decide +kernel
theorem dN_lineIsFree_144 : decode bN_lineIsFree 144 = .ok (.ireturn, 1) := by decide +kernel
theorem dN_isNear_0 : decode bN_isNear 0 = .ok (.iload_n 1, 1) := by decide +kernel
theorem dN_isNear_1 : decode bN_isNear 1 = .ok (.iload_n 3, 1) := by decide +kernel
theorem dN_isNear_2 : decode bN_isNear 2 = .ok (.isub, 1) := by decide +kernel
theorem dN_isNear_3 : decode bN_isNear 3 = .ok (.iload_n 1, 1) := by decide +kernel
theorem dN_isNear_4 : decode bN_isNear 4 = .ok (.iload_n 3, 1) := by decide +kernel
theorem dN_isNear_5 : decode bN_isNear 5 = .ok (.isub, 1) := by decide +kernel
theorem dN_isNear_6 : decode bN_isNear 6 = .ok (.imul, 1) := by decide +kernel
theorem dN_isNear_7 : decode bN_isNear 7 = .ok (.iload_n 2, 1) := by decide +kernel
theorem dN_isNear_8 : decode bN_isNear 8 = .ok (.iload 4, 2) := by decide +kernel
theorem dN_isNear_10 : decode bN_isNear 10 = .ok (.isub, 1) := by decide +kernel
theorem dN_isNear_11 : decode bN_isNear 11 = .ok (.iload_n 2, 1) := by decide +kernel
theorem dN_isNear_12 : decode bN_isNear 12 = .ok (.iload 4, 2) := by decide +kernel
theorem dN_isNear_14 : decode bN_isNear 14 = .ok (.isub, 1) := by decide +kernel
theorem dN_isNear_15 : decode bN_isNear 15 = .ok (.imul, 1) := by decide +kernel
theorem dN_isNear_16 : decode bN_isNear 16 = .ok (.iadd, 1) := by decide +kernel
theorem dN_isNear_17 : decode bN_isNear 17 = .ok (.aload_n 0, 1) := by decide +kernel
theorem dN_isNear_18 : decode bN_isNear 18 = .ok (.getfield 29, 3) := by decide +kernel
theorem dN_isNear_21 : decode bN_isNear 21 = .ok (.if_icmp .gt 7, 3) := by decide +kernel
theorem dN_isNear_24 : decode bN_isNear 24 = .ok (.iconst 1, 1) := by decide +kernel
theorem dN_isNear_25 : decode bN_isNear 25 = .ok (.goto 4, 3) := by decide +kernel
theorem dN_isNear_28 : decode bN_isNear 28 = .ok (.iconst 0, 1) := by decide +kernel
theorem dN_isNear_29 : decode bN_isNear 29 = .ok (.ireturn, 1) := by decide +kernel
theorem dN_findReachers_0 : decode bN_findReachers 0 = .ok (.aload_n 0, 1) := by decide +kernel
theorem dN_findReachers_1 : decode bN_findReachers 1 = .ok (.getfield 45, 3) := by decide +kernel
theorem dN_findReachers_4 : decode bN_findReachers 4 = .ok (.ifCond .ne 4, 3) := by decide +kernel
theorem dN_findReachers_7 : decode bN_findReachers 7 = .ok (.return_, 1) := by decide +kernel
theorem dN_findReachers_8 : decode bN_findReachers 8 = .ok (.aload_n 0, 1) := by decide +kernel
theorem dN_findReachers_9 : decode bN_findReachers 9 = .ok (.getfield 42, 3) := by decide +kernel
theorem dN_findReachers_12 : decode bN_findReachers 12 = .ok (.iconst 0, 1) := by decide +kernel
theorem dN_findReachers_13 : decode bN_findReachers 13 = .ok (.invokestatic 52, 3) := by decide +kernel
theorem dN_findReachers_16 : decode bN_findReachers 16 = .ok (.iconst 0, 1) := by decide +kernel
theorem dN_findReachers_17 : decode bN_findReachers 17 = .ok (.istore_n 1, 1) := by decide +kernel
theorem dN_findReachers_18 : decode bN_findReachers 18 = .ok (.iload_n 1, 1) := by decide +kernel
theorem dN_findReachers_19 : decode bN_findReachers 19 = .ok (.bipush 12, 2) := by decide +kernel
theorem dN_findReachers_21 : decode bN_findReachers 21 = .ok (.if_icmp .ge 34, 3) := by decide +kernel
theorem dN_findReachers_24 : decode bN_findReachers 24 = .ok (.iload_n 1, 1) := by decide +kernel
theorem dN_findReachers_25 : decode bN_findReachers 25 = .ok (.aload_n 0, 1) := by decide +kernel
theorem dN_findReachers_26 : decode bN_findReachers 26 = .ok (.getfield 39, 3) := by decide +kernel
theorem dN_findReachers_29 : decode bN_findReachers 29 = .ok (.if_icmp .ge 26, 3) := by decide +kernel
theorem dN_findReachers_32 : decode bN_findReachers 32 = .ok (.aload_n 0, 1) := by decide +kernel
theorem dN_findReachers_33 : decode bN_findReachers 33 = .ok (.iload_n 1, 1) := by decide +kernel
theorem dN_findReachers_34 : decode bN_findReachers 34 = .ok (.aload_n 0, 1) := by decide +kernel
theorem dN_findReachers_35 : decode bN_findReachers 35 = .ok (.getfield 32, 3) := by decide +kernel
theorem dN_findReachers_38 : decode bN_findReachers 38 = .ok (.iload_n 1, 1) := by decide +kernel
theorem dN_findReachers_39 : decode bN_findReachers 39 = .ok (.iaload, 1) := by decide +kernel
theorem dN_findReachers_40 : decode bN_findReachers 40 = .ok (.aload_n 0, 1) := by decide +kernel
theorem dN_findReachers_41 : decode bN_findReachers 41 = .ok (.getfield 36, 3) := by decide +kernel
theorem dN_findReachers_44 : decode bN_findReachers 44 = .ok (.iload_n 1, 1) := by decide +kernel
theorem dN_findReachers_45 : decode bN_findReachers 45 = .ok (.iaload, 1) := by decide +kernel
theorem dN_findReachers_46 : decode bN_findReachers 46 = .ok (.invokevirtual 171, 3) := by decide +kernel
theorem dN_findReachers_49 : decode bN_findReachers 49 = .ok (.iinc 1 1, 3) := by decide +kernel
theorem dN_findReachers_52 : decode bN_findReachers 52 = .ok (.goto (-34), 3) := by decide +kernel
theorem dN_findReachers_55 : decode bN_findReachers 55 = .ok (.aload_n 0, 1) := by decide +kernel
theorem dN_findReachers_56 : decode bN_findReachers 56 = .ok (.iconst 0, 1) := by decide +kernel
theorem dN_findReachers_57 : decode bN_findReachers 57 = .ok (.putfield 45, 3) := by decide +kernel
theorem dN_findReachers_60 : decode bN_findReachers 60 = .ok (.return_, 1) := by decide +kernel
theorem dN_addReacher_0 : decode bN_addReacher 0 = .ok (.iconst 0, 1) := by decide +kernel
theorem dN_addReacher_1 : decode bN_addReacher 1 = .ok (.istore 4, 2) := by decide +kernel
theorem dN_addReacher_3 : decode bN_addReacher 3 = .ok (.iload 4, 2) := by decide +kernel
theorem dN_addReacher_5 : decode bN_addReacher 5 = .ok (.aload_n 0, 1) := by decide +kernel
theorem dN_addReacher_6 : decode bN_addReacher 6 = .ok (.getfield 22, 3) := by decide +kernel
theorem dN_addReacher_9 : decode bN_addReacher 9 = .ok (.if_icmp .ge 71, 3) := by decide +kernel
theorem dN_addReacher_12 : decode bN_addReacher 12 = .ok (.iconst 0, 1) := by decide +kernel
theorem dN_addReacher_13 : decode bN_addReacher 13 = .ok (.istore 5, 2) := by decide +kernel
theorem dN_addReacher_15 : decode bN_addReacher 15 = .ok (.iload 5, 2) := by decide +kernel
theorem dN_addReacher_17 : decode bN_addReacher 17 = .ok (.aload_n 0, 1) := by decide +kernel
theorem dN_addReacher_18 : decode bN_addReacher 18 = .ok (.getfield 18, 3) := by decide +kernel
theorem dN_addReacher_21 : decode bN_addReacher 21 = .ok (.if_icmp .ge 53, 3) := by decide +kernel
theorem dN_addReacher_24 : decode bN_addReacher 24 = .ok (.aload_n 0, 1) := by decide +kernel
theorem dN_addReacher_25 : decode bN_addReacher 25 = .ok (.iload_n 2, 1) := by decide +kernel
theorem dN_addReacher_26 : decode bN_addReacher 26 = .ok (.iload_n 3, 1) := by decide +kernel
theorem dN_addReacher_27 : decode bN_addReacher 27 = .ok (.iload 5, 2) := by decide +kernel
theorem dN_addReacher_29 : decode bN_addReacher 29 = .ok (.iload 4, 2) := by decide +kernel
theorem dN_addReacher_31 : decode bN_addReacher 31 = .ok (.invokevirtual 175, 3) := by decide +kernel
theorem dN_addReacher_34 : decode bN_addReacher 34 = .ok (.ifCond .eq 34, 3) := by decide +kernel
theorem dN_addReacher_37 : decode bN_addReacher 37 = .ok (.aload_n 0, 1) := by decide +kernel
theorem dN_addReacher_38 : decode bN_addReacher 38 = .ok (.iload_n 2, 1) := by decide +kernel
theorem dN_addReacher_39 : decode bN_addReacher 39 = .ok (.iload_n 3, 1) := by decide +kernel
theorem dN_addReacher_40 : decode bN_addReacher 40 = .ok (.iload 5, 2) := by decide +kernel
theorem dN_addReacher_42 : decode bN_addReacher 42 = .ok (.iload 4, 2) := by decide +kernel
theorem dN_addReacher_44 : decode bN_addReacher 44 = .ok (.invokevirtual 112, 3) := by decide +kernel
theorem dN_addReacher_47 : decode bN_addReacher 47 = .ok (.ifCond .eq 21, 3) := by decide +kernel
theorem dN_addReacher_50 : decode bN_addReacher 50 = .ok (.aload_n 0, 1) := by decide +kernel
theorem dN_addReacher_51 : decode bN_addReacher 51 = .ok (.getfield 42, 3) := by decide +kernel
theorem dN_addReacher_54 : decode bN_addReacher 54 = .ok (.iload 5, 2) := by decide +kernel
theorem dN_addReacher_56 : decode bN_addReacher 56 = .ok (.iload 4, 2) := by decide +kernel
theorem dN_addReacher_58 : decode bN_addReacher 58 = .ok (.invokestatic 90, 3) := by decide +kernel
theorem dN_addReacher_61 : decode bN_addReacher 61 = .ok (.dup2, 1) := by decide +kernel
theorem dN_addReacher_62 : decode bN_addReacher 62 = .ok (.iaload, 1) := by decide +kernel
theorem dN_addReacher_63 : decode bN_addReacher 63 = .ok (.iconst 1, 1) := by decide +kernel
theorem dN_addReacher_64 : decode bN_addReacher 64 = .ok (.iload_n 1, 1) := by decide +kernel
theorem dN_addReacher_65 : decode bN_addReacher 65 = .ok (.ishl, 1) := by decide +kernel
theorem dN_addReacher_66 : decode bN_addReacher 66 = .ok (.ior, 1) := by decide +kernel
theorem dN_addReacher_67 : decode bN_addReacher 67 = .ok (.iastore, 1) := by decide +kernel
theorem dN_addReacher_68 : decode bN_addReacher 68 = .ok (.iinc 5 1, 3) := by decide +kernel
theorem dN_addReacher_71 : decode bN_addReacher 71 = .ok (.goto (-56), 3) := by decide +kernel
theorem dN_addReacher_74 : decode bN_addReacher 74 = .ok (.iinc 4 1, 3) := by decide +kernel
theorem dN_addReacher_77 : decode bN_addReacher 77 = .ok (.goto (-74), 3) := by decide +kernel
theorem dN_addReacher_80 : decode bN_addReacher 80 = .ok (.return_, 1) := by decide +kernel
theorem dN_isDry_0 : decode bN_isDry 0 = .ok (.aload_n 0, 1) := by decide +kernel
theorem dN_isDry_1 : decode bN_isDry 1 = .ok (.getfield 25, 3) := by decide +kernel
theorem dN_isDry_4 : decode bN_isDry 4 = .ok (.iload_n 1, 1) := by decide +kernel
theorem dN_isDry_5 : decode bN_isDry 5 = .ok (.baload, 1) := by decide +kernel
theorem dN_isDry_6 : decode bN_isDry 6 = .ok (.ifCond .ne 18, 3) := by decide +kernel
theorem dN_isDry_9 : decode bN_isDry 9 = .ok (.aload_n 0, 1) := by decide +kernel
theorem dN_isDry_10 : decode bN_isDry 10 = .ok (.getfield 42, 3) := by decide +kernel
theorem dN_isDry_13 : decode bN_isDry 13 = .ok (.iload_n 1, 1) := by decide +kernel
theorem dN_isDry_14 : decode bN_isDry 14 = .ok (.iaload, 1) := by decide +kernel
theorem dN_isDry_15 : decode bN_isDry 15 = .ok (.iload_n 2, 1) := by decide +kernel
theorem dN_isDry_16 : decode bN_isDry 16 = .ok (.iand, 1) := by decide +kernel
theorem dN_isDry_17 : decode bN_isDry 17 = .ok (.ifCond .ne 7, 3) := by decide +kernel
theorem dN_isDry_20 : decode bN_isDry 20 = .ok (.iconst 1, 1) := by decide +kernel
theorem dN_isDry_21 : decode bN_isDry 21 = .ok (.goto 4, 3) := by decide +kernel
theorem dN_isDry_24 : decode bN_isDry 24 = .ok (.iconst 0, 1) := by decide +kernel
theorem dN_isDry_25 : decode bN_isDry 25 = .ok (.ireturn, 1) := by decide +kernel
theorem dN_dryCell_0 : decode bN_dryCell 0 = .ok (.iconst 0, 1) := by decide +kernel
theorem dN_dryCell_1 : decode bN_dryCell 1 = .ok (.istore_n 3, 1) := by decide +kernel
theorem dN_dryCell_2 : decode bN_dryCell 2 = .ok (.iconst 0, 1) := by decide +kernel
theorem dN_dryCell_3 : decode bN_dryCell 3 = .ok (.istore 4, 2) := by decide +kernel
theorem dN_dryCell_5 : decode bN_dryCell 5 = .ok (.iload 4, 2) := by decide +kernel
theorem dN_dryCell_7 : decode bN_dryCell 7 = .ok (.aload_n 0, 1) := by decide +kernel
theorem dN_dryCell_8 : decode bN_dryCell 8 = .ok (.getfield 25, 3) := by decide +kernel
theorem dN_dryCell_11 : decode bN_dryCell 11 = .ok (.arraylength, 1) := by decide +kernel
theorem dN_dryCell_12 : decode bN_dryCell 12 = .ok (.if_icmp .ge 30, 3) := by decide +kernel
theorem dN_dryCell_15 : decode bN_dryCell 15 = .ok (.aload_n 0, 1) := by decide +kernel
theorem dN_dryCell_16 : decode bN_dryCell 16 = .ok (.iload 4, 2) := by decide +kernel
theorem dN_dryCell_18 : decode bN_dryCell 18 = .ok (.iload_n 1, 1) := by decide +kernel
theorem dN_dryCell_19 : decode bN_dryCell 19 = .ok (.invokevirtual 129, 3) := by decide +kernel
theorem dN_dryCell_22 : decode bN_dryCell 22 = .ok (.ifCond .eq 14, 3) := by decide +kernel
theorem dN_dryCell_25 : decode bN_dryCell 25 = .ok (.iload_n 3, 1) := by decide +kernel
theorem dN_dryCell_26 : decode bN_dryCell 26 = .ok (.iload_n 2, 1) := by decide +kernel
theorem dN_dryCell_27 : decode bN_dryCell 27 = .ok (.if_icmp .ne 6, 3) := by decide +kernel
theorem dN_dryCell_30 : decode bN_dryCell 30 = .ok (.iload 4, 2) := by decide +kernel
theorem dN_dryCell_32 : decode bN_dryCell 32 = .ok (.ireturn, 1) := by decide +kernel
theorem dN_dryCell_33 : decode bN_dryCell 33 = .ok (.iinc 3 1, 3) := by decide +kernel
theorem dN_dryCell_36 : decode bN_dryCell 36 = .ok (.iinc 4 1, 3) := by decide +kernel
theorem dN_dryCell_39 : decode bN_dryCell 39 = .ok (.goto (-34), 3) := by decide +kernel
theorem dN_dryCell_42 : decode bN_dryCell 42 = .ok (.iconst (-1), 1) := by decide +kernel
theorem dN_dryCell_43 : decode bN_dryCell 43 = .ok (.ireturn, 1) := by decide +kernel
theorem dN_layPipes_0 : decode bN_layPipes 0 = .ok (.aload_n 0, 1) := by decide +kernel
theorem dN_layPipes_1 : decode bN_layPipes 1 = .ok (.iload_n 1, 1) := by decide +kernel
theorem dN_layPipes_2 : decode bN_layPipes 2 = .ok (.invokevirtual 178, 3) := by decide +kernel
theorem dN_layPipes_5 : decode bN_layPipes 5 = .ok (.aload_n 0, 1) := by decide +kernel
theorem dN_layPipes_6 : decode bN_layPipes 6 = .ok (.invokevirtual 181, 3) := by decide +kernel
theorem dN_layPipes_9 : decode bN_layPipes 9 = .ok (.aload_n 0, 1) := by decide +kernel
theorem dN_layPipes_10 : decode bN_layPipes 10 = .ok (.invokevirtual 184, 3) := by decide +kernel
theorem dN_layPipes_13 : decode bN_layPipes 13 = .ok (.return_, 1) := by decide +kernel
theorem dN_joinPlaces_0 : decode bN_joinPlaces 0 = .ok (.iconst 0, 1) := by decide +kernel
theorem dN_joinPlaces_1 : decode bN_joinPlaces 1 = .ok (.istore_n 2, 1) := by decide +kernel
theorem dN_joinPlaces_2 : decode bN_joinPlaces 2 = .ok (.iload_n 2, 1) := by decide +kernel
theorem dN_joinPlaces_3 : decode bN_joinPlaces 3 = .ok (.bipush 12, 2) := by decide +kernel
theorem dN_joinPlaces_5 : decode bN_joinPlaces 5 = .ok (.if_icmp .ge 35, 3) := by decide +kernel
theorem dN_joinPlaces_8 : decode bN_joinPlaces 8 = .ok (.aload_n 0, 1) := by decide +kernel
theorem dN_joinPlaces_9 : decode bN_joinPlaces 9 = .ok (.getfield 61, 3) := by decide +kernel
theorem dN_joinPlaces_12 : decode bN_joinPlaces 12 = .ok (.iload_n 2, 1) := by decide +kernel
theorem dN_joinPlaces_13 : decode bN_joinPlaces 13 = .ok (.iconst (-1), 1) := by decide +kernel
theorem dN_joinPlaces_14 : decode bN_joinPlaces 14 = .ok (.iastore, 1) := by decide +kernel
theorem dN_joinPlaces_15 : decode bN_joinPlaces 15 = .ok (.aload_n 0, 1) := by decide +kernel
theorem dN_joinPlaces_16 : decode bN_joinPlaces 16 = .ok (.getfield 64, 3) := by decide +kernel
theorem dN_joinPlaces_19 : decode bN_joinPlaces 19 = .ok (.iload_n 2, 1) := by decide +kernel
theorem dN_joinPlaces_20 : decode bN_joinPlaces 20 = .ok (.aload_n 0, 1) := by decide +kernel
theorem dN_joinPlaces_21 : decode bN_joinPlaces 21 = .ok (.getfield 32, 3) := by decide +kernel
theorem dN_joinPlaces_24 : decode bN_joinPlaces 24 = .ok (.iload_n 2, 1) := by decide +kernel
theorem dN_joinPlaces_25 : decode bN_joinPlaces 25 = .ok (.iaload, 1) := by decide +kernel
theorem dN_joinPlaces_26 : decode bN_joinPlaces 26 = .ok (.aload_n 0, 1) := by decide +kernel
theorem dN_joinPlaces_27 : decode bN_joinPlaces 27 = .ok (.getfield 36, 3) := by decide +kernel
theorem dN_joinPlaces_30 : decode bN_joinPlaces 30 = .ok (.iload_n 2, 1) := by decide +kernel
theorem dN_joinPlaces_31 : decode bN_joinPlaces 31 = .ok (.iaload, 1) := by decide +kernel
theorem dN_joinPlaces_32 : decode bN_joinPlaces 32 = .ok (.iadd, 1) := by decide +kernel
theorem dN_joinPlaces_33 : decode bN_joinPlaces 33 = .ok (.iastore, 1) := by decide +kernel
theorem dN_joinPlaces_34 : decode bN_joinPlaces 34 = .ok (.iinc 2 1, 3) := by decide +kernel
theorem dN_joinPlaces_37 : decode bN_joinPlaces 37 = .ok (.goto (-35), 3) := by decide +kernel
theorem dN_joinPlaces_40 : decode bN_joinPlaces 40 = .ok (.aload_n 0, 1) := by decide +kernel
theorem dN_joinPlaces_41 : decode bN_joinPlaces 41 = .ok (.iconst 0, 1) := by decide +kernel
theorem dN_joinPlaces_42 : decode bN_joinPlaces 42 = .ok (.putfield 79, 3) := by decide +kernel
theorem dN_joinPlaces_45 : decode bN_joinPlaces 45 = .ok (.iload_n 1, 1) := by decide +kernel
theorem dN_joinPlaces_46 : decode bN_joinPlaces 46 = .ok (.istore_n 2, 1) := by decide +kernel
theorem dN_joinPlaces_47 : decode bN_joinPlaces 47 = .ok (.iconst 0, 1) := by decide +kernel
theorem dN_joinPlaces_48 : decode bN_joinPlaces 48 = .ok (.istore_n 3, 1) := by decide +kernel
theorem dN_joinPlaces_49 : decode bN_joinPlaces 49 = .ok (.iload_n 3, 1) := by decide +kernel
theorem dN_joinPlaces_50 : decode bN_joinPlaces 50 = .ok (.bipush 12, 2) := by decide +kernel
theorem dN_joinPlaces_52 : decode bN_joinPlaces 52 = .ok (.if_icmp .ge 62, 3) := by decide +kernel
theorem dN_joinPlaces_55 : decode bN_joinPlaces 55 = .ok (.aload_n 0, 1) := by decide +kernel
theorem dN_joinPlaces_56 : decode bN_joinPlaces 56 = .ok (.iload_n 2, 1) := by decide +kernel
theorem dN_joinPlaces_57 : decode bN_joinPlaces 57 = .ok (.invokevirtual 187, 3) := by decide +kernel
theorem dN_joinPlaces_60 : decode bN_joinPlaces 60 = .ok (.istore 4, 2) := by decide +kernel
theorem dN_joinPlaces_62 : decode bN_joinPlaces 62 = .ok (.iload 4, 2) := by decide +kernel
theorem dN_joinPlaces_64 : decode bN_joinPlaces 64 = .ok (.iconst (-1), 1) := by decide +kernel
theorem dN_joinPlaces_65 : decode bN_joinPlaces 65 = .ok (.if_icmp .ne 4, 3) := by decide +kernel
theorem dN_joinPlaces_68 : decode bN_joinPlaces 68 = .ok (.return_, 1) := by decide +kernel
theorem dN_joinPlaces_69 : decode bN_joinPlaces 69 = .ok (.aload_n 0, 1) := by decide +kernel
theorem dN_joinPlaces_70 : decode bN_joinPlaces 70 = .ok (.getfield 76, 3) := by decide +kernel
theorem dN_joinPlaces_73 : decode bN_joinPlaces 73 = .ok (.iload_n 3, 1) := by decide +kernel
theorem dN_joinPlaces_74 : decode bN_joinPlaces 74 = .ok (.iload 4, 2) := by decide +kernel
theorem dN_joinPlaces_76 : decode bN_joinPlaces 76 = .ok (.iastore, 1) := by decide +kernel
theorem dN_joinPlaces_77 : decode bN_joinPlaces 77 = .ok (.aload_n 0, 1) := by decide +kernel
theorem dN_joinPlaces_78 : decode bN_joinPlaces 78 = .ok (.getfield 70, 3) := by decide +kernel
theorem dN_joinPlaces_81 : decode bN_joinPlaces 81 = .ok (.iload 4, 2) := by decide +kernel
theorem dN_joinPlaces_83 : decode bN_joinPlaces 83 = .ok (.iload_n 3, 1) := by decide +kernel
theorem dN_joinPlaces_84 : decode bN_joinPlaces 84 = .ok (.iastore, 1) := by decide +kernel
theorem dN_joinPlaces_85 : decode bN_joinPlaces 85 = .ok (.aload_n 0, 1) := by decide +kernel
theorem dN_joinPlaces_86 : decode bN_joinPlaces 86 = .ok (.iload_n 3, 1) := by decide +kernel
theorem dN_joinPlaces_87 : decode bN_joinPlaces 87 = .ok (.iconst 1, 1) := by decide +kernel
theorem dN_joinPlaces_88 : decode bN_joinPlaces 88 = .ok (.iadd, 1) := by decide +kernel
theorem dN_joinPlaces_89 : decode bN_joinPlaces 89 = .ok (.putfield 79, 3) := by decide +kernel
theorem dN_joinPlaces_92 : decode bN_joinPlaces 92 = .ok (.iload_n 2, 1) := by decide +kernel
theorem dN_joinPlaces_93 : decode bN_joinPlaces 93 = .ok (.iconst 1, 1) := by decide +kernel
theorem dN_joinPlaces_94 : decode bN_joinPlaces 94 = .ok (.iload 4, 2) := by decide +kernel
theorem dN_joinPlaces_96 : decode bN_joinPlaces 96 = .ok (.ishl, 1) := by decide +kernel
theorem dN_joinPlaces_97 : decode bN_joinPlaces 97 = .ok (.iconst (-1), 1) := by decide +kernel
theorem dN_joinPlaces_98 : decode bN_joinPlaces 98 = .ok (.ixor, 1) := by decide +kernel
theorem dN_joinPlaces_99 : decode bN_joinPlaces 99 = .ok (.iand, 1) := by decide +kernel
theorem dN_joinPlaces_100 : decode bN_joinPlaces 100 = .ok (.istore_n 2, 1) := by decide +kernel
theorem dN_joinPlaces_101 : decode bN_joinPlaces 101 = .ok (.aload_n 0, 1) := by decide +kernel
theorem dN_joinPlaces_102 : decode bN_joinPlaces 102 = .ok (.iload 4, 2) := by decide +kernel
theorem dN_joinPlaces_104 : decode bN_joinPlaces 104 = .ok (.iload_n 2, 1) := by decide +kernel
theorem dN_joinPlaces_105 : decode bN_joinPlaces 105 = .ok (.invokevirtual 190, 3) := by decide +kernel
theorem dN_joinPlaces_108 : decode bN_joinPlaces 108 = .ok (.iinc 3 1, 3) := by decide +kernel
theorem dN_joinPlaces_111 : decode bN_joinPlaces 111 = .ok (.goto (-62), 3) := by decide +kernel
theorem dN_joinPlaces_114 : decode bN_joinPlaces 114 = .ok (.return_, 1) := by decide +kernel
theorem dN_nearestOf_0 : decode bN_nearestOf 0 = .ok (.iconst (-1), 1) := by decide +kernel
theorem dN_nearestOf_1 : decode bN_nearestOf 1 = .ok (.istore_n 2, 1) := by decide +kernel
theorem dN_nearestOf_2 : decode bN_nearestOf 2 = .ok (.iconst 0, 1) := by decide +kernel
theorem dN_nearestOf_3 : decode bN_nearestOf 3 = .ok (.istore_n 3, 1) := by decide +kernel
theorem dN_nearestOf_4 : decode bN_nearestOf 4 = .ok (.iconst 0, 1) := by decide +kernel
theorem dN_nearestOf_5 : decode bN_nearestOf 5 = .ok (.istore 4, 2) := by decide +kernel
theorem dN_nearestOf_7 : decode bN_nearestOf 7 = .ok (.iload 4, 2) := by decide +kernel
theorem dN_nearestOf_9 : decode bN_nearestOf 9 = .ok (.bipush 12, 2) := by decide +kernel
theorem dN_nearestOf_11 : decode bN_nearestOf 11 = .ok (.if_icmp .ge 45, 3) := by decide +kernel
theorem dN_nearestOf_14 : decode bN_nearestOf 14 = .ok (.iload_n 1, 1) := by decide +kernel
theorem dN_nearestOf_15 : decode bN_nearestOf 15 = .ok (.iload 4, 2) := by decide +kernel
theorem dN_nearestOf_17 : decode bN_nearestOf 17 = .ok (.invokestatic 123, 3) := by decide +kernel
theorem dN_nearestOf_20 : decode bN_nearestOf 20 = .ok (.ifCond .eq 30, 3) := by decide +kernel
theorem dN_nearestOf_23 : decode bN_nearestOf 23 = .ok (.iload_n 2, 1) := by decide +kernel
theorem dN_nearestOf_24 : decode bN_nearestOf 24 = .ok (.iconst (-1), 1) := by decide +kernel
theorem dN_nearestOf_25 : decode bN_nearestOf 25 = .ok (.if_icmp .eq 14, 3) := by decide +kernel
theorem dN_nearestOf_28 : decode bN_nearestOf 28 = .ok (.aload_n 0, 1) := by decide +kernel
theorem dN_nearestOf_29 : decode bN_nearestOf 29 = .ok (.getfield 64, 3) := by decide +kernel
theorem dN_nearestOf_32 : decode bN_nearestOf 32 = .ok (.iload 4, 2) := by decide +kernel
theorem dN_nearestOf_34 : decode bN_nearestOf 34 = .ok (.iaload, 1) := by decide +kernel
theorem dN_nearestOf_35 : decode bN_nearestOf 35 = .ok (.iload_n 3, 1) := by decide +kernel
theorem dN_nearestOf_36 : decode bN_nearestOf 36 = .ok (.if_icmp .ge 14, 3) := by decide +kernel
theorem dN_nearestOf_39 : decode bN_nearestOf 39 = .ok (.iload 4, 2) := by decide +kernel
theorem dN_nearestOf_41 : decode bN_nearestOf 41 = .ok (.istore_n 2, 1) := by decide +kernel
theorem dN_nearestOf_42 : decode bN_nearestOf 42 = .ok (.aload_n 0, 1) := by decide +kernel
theorem dN_nearestOf_43 : decode bN_nearestOf 43 = .ok (.getfield 64, 3) := by decide +kernel
theorem dN_nearestOf_46 : decode bN_nearestOf 46 = .ok (.iload 4, 2) := by decide +kernel
theorem dN_nearestOf_48 : decode bN_nearestOf 48 = .ok (.iaload, 1) := by decide +kernel
theorem dN_nearestOf_49 : decode bN_nearestOf 49 = .ok (.istore_n 3, 1) := by decide +kernel
theorem dN_nearestOf_50 : decode bN_nearestOf 50 = .ok (.iinc 4 1, 3) := by decide +kernel
theorem dN_nearestOf_53 : decode bN_nearestOf 53 = .ok (.goto (-46), 3) := by decide +kernel
theorem dN_nearestOf_56 : decode bN_nearestOf 56 = .ok (.iload_n 2, 1) := by decide +kernel
theorem dN_nearestOf_57 : decode bN_nearestOf 57 = .ok (.ireturn, 1) := by decide +kernel
theorem dN_offerUpper_0 : decode bN_offerUpper 0 = .ok (.iconst 0, 1) := by decide +kernel
theorem dN_offerUpper_1 : decode bN_offerUpper 1 = .ok (.istore_n 3, 1) := by decide +kernel
theorem dN_offerUpper_2 : decode bN_offerUpper 2 = .ok (.iload_n 3, 1) := by decide +kernel
theorem dN_offerUpper_3 : decode bN_offerUpper 3 = .ok (.bipush 12, 2) := by decide +kernel
theorem dN_offerUpper_5 : decode bN_offerUpper 5 = .ok (.if_icmp .ge 78, 3) := by decide +kernel
theorem dN_offerUpper_8 : decode bN_offerUpper 8 = .ok (.aload_n 0, 1) := by decide +kernel
theorem dN_offerUpper_9 : decode bN_offerUpper 9 = .ok (.getfield 32, 3) := by decide +kernel
theorem dN_offerUpper_12 : decode bN_offerUpper 12 = .ok (.iload_n 3, 1) := by decide +kernel
theorem dN_offerUpper_13 : decode bN_offerUpper 13 = .ok (.iaload, 1) := by decide +kernel
theorem dN_offerUpper_14 : decode bN_offerUpper 14 = .ok (.aload_n 0, 1) := by decide +kernel
theorem dN_offerUpper_15 : decode bN_offerUpper 15 = .ok (.getfield 32, 3) := by decide +kernel
theorem dN_offerUpper_18 : decode bN_offerUpper 18 = .ok (.iload_n 1, 1) := by decide +kernel
theorem dN_offerUpper_19 : decode bN_offerUpper 19 = .ok (.iaload, 1) := by decide +kernel
theorem dN_offerUpper_20 : decode bN_offerUpper 20 = .ok (.isub, 1) := by decide +kernel
theorem dN_offerUpper_21 : decode bN_offerUpper 21 = .ok (.invokestatic 168, 3) := by decide +kernel
theorem dN_offerUpper_24 : decode bN_offerUpper 24 = .ok (.aload_n 0, 1) := by decide +kernel
theorem dN_offerUpper_25 : decode bN_offerUpper 25 = .ok (.getfield 36, 3) := by decide +kernel
theorem dN_offerUpper_28 : decode bN_offerUpper 28 = .ok (.iload_n 3, 1) := by decide +kernel
theorem dN_offerUpper_29 : decode bN_offerUpper 29 = .ok (.iaload, 1) := by decide +kernel
theorem dN_offerUpper_30 : decode bN_offerUpper 30 = .ok (.aload_n 0, 1) := by decide +kernel
theorem dN_offerUpper_31 : decode bN_offerUpper 31 = .ok (.getfield 36, 3) := by decide +kernel
theorem dN_offerUpper_34 : decode bN_offerUpper 34 = .ok (.iload_n 1, 1) := by decide +kernel
theorem dN_offerUpper_35 : decode bN_offerUpper 35 = .ok (.iaload, 1) := by decide +kernel
theorem dN_offerUpper_36 : decode bN_offerUpper 36 = .ok (.isub, 1) := by decide +kernel
theorem dN_offerUpper_37 : decode bN_offerUpper 37 = .ok (.invokestatic 168, 3) := by decide +kernel
theorem dN_offerUpper_40 : decode bN_offerUpper 40 = .ok (.iadd, 1) := by decide +kernel
theorem dN_offerUpper_41 : decode bN_offerUpper 41 = .ok (.istore 4, 2) := by decide +kernel
theorem dN_offerUpper_43 : decode bN_offerUpper 43 = .ok (.iload_n 2, 1) := by decide +kernel
theorem dN_offerUpper_44 : decode bN_offerUpper 44 = .ok (.iload_n 3, 1) := by decide +kernel
theorem dN_offerUpper_45 : decode bN_offerUpper 45 = .ok (.invokestatic 123, 3) := by decide +kernel
theorem dN_offerUpper_48 : decode bN_offerUpper 48 = .ok (.ifCond .eq 29, 3) := by decide +kernel
theorem dN_offerUpper_51 : decode bN_offerUpper 51 = .ok (.iload 4, 2) := by decide +kernel
theorem dN_offerUpper_53 : decode bN_offerUpper 53 = .ok (.aload_n 0, 1) := by decide +kernel
theorem dN_offerUpper_54 : decode bN_offerUpper 54 = .ok (.getfield 64, 3) := by decide +kernel
theorem dN_offerUpper_57 : decode bN_offerUpper 57 = .ok (.iload_n 3, 1) := by decide +kernel
theorem dN_offerUpper_58 : decode bN_offerUpper 58 = .ok (.iaload, 1) := by decide +kernel
theorem dN_offerUpper_59 : decode bN_offerUpper 59 = .ok (.if_icmp .ge 18, 3) := by decide +kernel
theorem dN_offerUpper_62 : decode bN_offerUpper 62 = .ok (.aload_n 0, 1) := by decide +kernel
theorem dN_offerUpper_63 : decode bN_offerUpper 63 = .ok (.getfield 61, 3) := by decide +kernel
theorem dN_offerUpper_66 : decode bN_offerUpper 66 = .ok (.iload_n 3, 1) := by decide +kernel
theorem dN_offerUpper_67 : decode bN_offerUpper 67 = .ok (.iload_n 1, 1) := by decide +kernel
theorem dN_offerUpper_68 : decode bN_offerUpper 68 = .ok (.iastore, 1) := by decide +kernel
theorem dN_offerUpper_69 : decode bN_offerUpper 69 = .ok (.aload_n 0, 1) := by decide +kernel
theorem dN_offerUpper_70 : decode bN_offerUpper 70 = .ok (.getfield 64, 3) := by decide +kernel
theorem dN_offerUpper_73 : decode bN_offerUpper 73 = .ok (.iload_n 3, 1) := by decide +kernel
theorem dN_offerUpper_74 : decode bN_offerUpper 74 = .ok (.iload 4, 2) := by decide +kernel
theorem dN_offerUpper_76 : decode bN_offerUpper 76 = .ok (.iastore, 1) := by decide +kernel
theorem dN_offerUpper_77 : decode bN_offerUpper 77 = .ok (.iinc 3 1, 3) := by decide +kernel
theorem dN_offerUpper_80 : decode bN_offerUpper 80 = .ok (.goto (-78), 3) := by decide +kernel
theorem dN_offerUpper_83 : decode bN_offerUpper 83 = .ok (.return_, 1) := by decide +kernel
theorem dN_countHeads_0 : decode bN_countHeads 0 = .ok (.aload_n 0, 1) := by decide +kernel
theorem dN_countHeads_1 : decode bN_countHeads 1 = .ok (.getfield 67, 3) := by decide +kernel
theorem dN_countHeads_4 : decode bN_countHeads 4 = .ok (.iconst 1, 1) := by decide +kernel
theorem dN_countHeads_5 : decode bN_countHeads 5 = .ok (.invokestatic 52, 3) := by decide +kernel
theorem dN_countHeads_8 : decode bN_countHeads 8 = .ok (.aload_n 0, 1) := by decide +kernel
theorem dN_countHeads_9 : decode bN_countHeads 9 = .ok (.getfield 79, 3) := by decide +kernel
theorem dN_countHeads_12 : decode bN_countHeads 12 = .ok (.bipush 12, 2) := by decide +kernel
theorem dN_countHeads_14 : decode bN_countHeads 14 = .ok (.invokestatic 9, 3) := by decide +kernel
theorem dN_countHeads_17 : decode bN_countHeads 17 = .ok (.iconst 1, 1) := by decide +kernel
theorem dN_countHeads_18 : decode bN_countHeads 18 = .ok (.isub, 1) := by decide +kernel
theorem dN_countHeads_19 : decode bN_countHeads 19 = .ok (.istore_n 1, 1) := by decide +kernel
theorem dN_countHeads_20 : decode bN_countHeads 20 = .ok (.iload_n 1, 1) := by decide +kernel
theorem dN_countHeads_21 : decode bN_countHeads 21 = .ok (.ifCond .lt 48, 3) := by decide +kernel
theorem dN_countHeads_24 : decode bN_countHeads 24 = .ok (.aload_n 0, 1) := by decide +kernel
theorem dN_countHeads_25 : decode bN_countHeads 25 = .ok (.getfield 76, 3) := by decide +kernel
theorem dN_countHeads_28 : decode bN_countHeads 28 = .ok (.iload_n 1, 1) := by decide +kernel
theorem dN_countHeads_29 : decode bN_countHeads 29 = .ok (.iaload, 1) := by decide +kernel
theorem dN_countHeads_30 : decode bN_countHeads 30 = .ok (.istore_n 2, 1) := by decide +kernel
theorem dN_countHeads_31 : decode bN_countHeads 31 = .ok (.aload_n 0, 1) := by decide +kernel
theorem dN_countHeads_32 : decode bN_countHeads 32 = .ok (.getfield 61, 3) := by decide +kernel
theorem dN_countHeads_35 : decode bN_countHeads 35 = .ok (.iload_n 2, 1) := by decide +kernel
theorem dN_countHeads_36 : decode bN_countHeads 36 = .ok (.iaload, 1) := by decide +kernel
theorem dN_countHeads_37 : decode bN_countHeads 37 = .ok (.istore_n 3, 1) := by decide +kernel
theorem dN_countHeads_38 : decode bN_countHeads 38 = .ok (.iload_n 3, 1) := by decide +kernel
theorem dN_countHeads_39 : decode bN_countHeads 39 = .ok (.ifCond .lt 24, 3) := by decide +kernel
theorem dN_countHeads_42 : decode bN_countHeads 42 = .ok (.iload_n 3, 1) := by decide +kernel
theorem dN_countHeads_43 : decode bN_countHeads 43 = .ok (.bipush 12, 2) := by decide +kernel
theorem dN_countHeads_45 : decode bN_countHeads 45 = .ok (.if_icmp .ge 18, 3) := by decide +kernel
theorem dN_countHeads_48 : decode bN_countHeads 48 = .ok (.aload_n 0, 1) := by decide +kernel
theorem dN_countHeads_49 : decode bN_countHeads 49 = .ok (.getfield 67, 3) := by decide +kernel
theorem dN_countHeads_52 : decode bN_countHeads 52 = .ok (.iload_n 3, 1) := by decide +kernel
theorem dN_countHeads_53 : decode bN_countHeads 53 = .ok (.dup2, 1) := by decide +kernel
theorem dN_countHeads_54 : decode bN_countHeads 54 = .ok (.iaload, 1) := by decide +kernel
theorem dN_countHeads_55 : decode bN_countHeads 55 = .ok (.aload_n 0, 1) := by decide +kernel
theorem dN_countHeads_56 : decode bN_countHeads 56 = .ok (.getfield 67, 3) := by decide +kernel
theorem dN_countHeads_59 : decode bN_countHeads 59 = .ok (.iload_n 2, 1) := by decide +kernel
theorem dN_countHeads_60 : decode bN_countHeads 60 = .ok (.iaload, 1) := by decide +kernel
theorem dN_countHeads_61 : decode bN_countHeads 61 = .ok (.iadd, 1) := by decide +kernel
theorem dN_countHeads_62 : decode bN_countHeads 62 = .ok (.iastore, 1) := by decide +kernel
theorem dN_countHeads_63 : decode bN_countHeads 63 = .ok (.iinc 1 (-1), 3) := by decide +kernel
theorem dN_countHeads_66 : decode bN_countHeads 66 = .ok (.goto (-46), 3) := by decide +kernel
theorem dN_countHeads_69 : decode bN_countHeads 69 = .ok (.return_, 1) := by decide +kernel
theorem dN_addLacks_0 : decode bN_addLacks 0 = .ok (.iconst 0, 1) := by decide +kernel
theorem dN_addLacks_1 : decode bN_addLacks 1 = .ok (.istore_n 1, 1) := by decide +kernel
theorem dN_addLacks_2 : decode bN_addLacks 2 = .ok (.iload_n 1, 1) := by decide +kernel
theorem dN_addLacks_3 : decode bN_addLacks 3 = .ok (.bipush 12, 2) := by decide +kernel
theorem dN_addLacks_5 : decode bN_addLacks 5 = .ok (.if_icmp .ge 87, 3) := by decide +kernel
theorem dN_addLacks_8 : decode bN_addLacks 8 = .ok (.iload_n 1, 1) := by decide +kernel
theorem dN_addLacks_9 : decode bN_addLacks 9 = .ok (.aload_n 0, 1) := by decide +kernel
theorem dN_addLacks_10 : decode bN_addLacks 10 = .ok (.getfield 79, 3) := by decide +kernel
theorem dN_addLacks_13 : decode bN_addLacks 13 = .ok (.if_icmp .ge 79, 3) := by decide +kernel
theorem dN_addLacks_16 : decode bN_addLacks 16 = .ok (.aload_n 0, 1) := by decide +kernel
theorem dN_addLacks_17 : decode bN_addLacks 17 = .ok (.getfield 76, 3) := by decide +kernel
theorem dN_addLacks_20 : decode bN_addLacks 20 = .ok (.iload_n 1, 1) := by decide +kernel
theorem dN_addLacks_21 : decode bN_addLacks 21 = .ok (.iaload, 1) := by decide +kernel
theorem dN_addLacks_22 : decode bN_addLacks 22 = .ok (.istore_n 2, 1) := by decide +kernel
theorem dN_addLacks_23 : decode bN_addLacks 23 = .ok (.aload_n 0, 1) := by decide +kernel
theorem dN_addLacks_24 : decode bN_addLacks 24 = .ok (.getfield 61, 3) := by decide +kernel
theorem dN_addLacks_27 : decode bN_addLacks 27 = .ok (.iload_n 2, 1) := by decide +kernel
theorem dN_addLacks_28 : decode bN_addLacks 28 = .ok (.iaload, 1) := by decide +kernel
theorem dN_addLacks_29 : decode bN_addLacks 29 = .ok (.istore_n 3, 1) := by decide +kernel
theorem dN_addLacks_30 : decode bN_addLacks 30 = .ok (.aload_n 0, 1) := by decide +kernel
theorem dN_addLacks_31 : decode bN_addLacks 31 = .ok (.getfield 64, 3) := by decide +kernel
theorem dN_addLacks_34 : decode bN_addLacks 34 = .ok (.iload_n 2, 1) := by decide +kernel
theorem dN_addLacks_35 : decode bN_addLacks 35 = .ok (.iaload, 1) := by decide +kernel
theorem dN_addLacks_36 : decode bN_addLacks 36 = .ok (.aload_n 0, 1) := by decide +kernel
theorem dN_addLacks_37 : decode bN_addLacks 37 = .ok (.aload_n 0, 1) := by decide +kernel
theorem dN_addLacks_38 : decode bN_addLacks 38 = .ok (.getfield 67, 3) := by decide +kernel
theorem dN_addLacks_41 : decode bN_addLacks 41 = .ok (.iload_n 2, 1) := by decide +kernel
theorem dN_addLacks_42 : decode bN_addLacks 42 = .ok (.iaload, 1) := by decide +kernel
theorem dN_addLacks_43 : decode bN_addLacks 43 = .ok (.invokevirtual 156, 3) := by decide +kernel
theorem dN_addLacks_46 : decode bN_addLacks 46 = .ok (.imul, 1) := by decide +kernel
theorem dN_addLacks_47 : decode bN_addLacks 47 = .ok (.aload_n 0, 1) := by decide +kernel
theorem dN_addLacks_48 : decode bN_addLacks 48 = .ok (.getfield 67, 3) := by decide +kernel
theorem dN_addLacks_51 : decode bN_addLacks 51 = .ok (.iload_n 2, 1) := by decide +kernel
theorem dN_addLacks_52 : decode bN_addLacks 52 = .ok (.iaload, 1) := by decide +kernel
theorem dN_addLacks_53 : decode bN_addLacks 53 = .ok (.imul, 1) := by decide +kernel
theorem dN_addLacks_54 : decode bN_addLacks 54 = .ok (.istore 4, 2) := by decide +kernel
theorem dN_addLacks_56 : decode bN_addLacks 56 = .ok (.aload_n 0, 1) := by decide +kernel
theorem dN_addLacks_57 : decode bN_addLacks 57 = .ok (.getfield 73, 3) := by decide +kernel
theorem dN_addLacks_60 : decode bN_addLacks 60 = .ok (.iload_n 2, 1) := by decide +kernel
theorem dN_addLacks_61 : decode bN_addLacks 61 = .ok (.iload_n 3, 1) := by decide +kernel
theorem dN_addLacks_62 : decode bN_addLacks 62 = .ok (.ifCond .lt 21, 3) := by decide +kernel
theorem dN_addLacks_65 : decode bN_addLacks 65 = .ok (.iload_n 3, 1) := by decide +kernel
theorem dN_addLacks_66 : decode bN_addLacks 66 = .ok (.bipush 12, 2) := by decide +kernel
theorem dN_addLacks_68 : decode bN_addLacks 68 = .ok (.if_icmp .ge 15, 3) := by decide +kernel
theorem dN_addLacks_71 : decode bN_addLacks 71 = .ok (.aload_n 0, 1) := by decide +kernel
theorem dN_addLacks_72 : decode bN_addLacks 72 = .ok (.getfield 73, 3) := by decide +kernel
theorem dN_addLacks_75 : decode bN_addLacks 75 = .ok (.iload_n 3, 1) := by decide +kernel
theorem dN_addLacks_76 : decode bN_addLacks 76 = .ok (.iaload, 1) := by decide +kernel
theorem dN_addLacks_77 : decode bN_addLacks 77 = .ok (.iload 4, 2) := by decide +kernel
theorem dN_addLacks_79 : decode bN_addLacks 79 = .ok (.iadd, 1) := by decide +kernel
theorem dN_addLacks_80 : decode bN_addLacks 80 = .ok (.goto 5, 3) := by decide +kernel
theorem dN_addLacks_83 : decode bN_addLacks 83 = .ok (.iload 4, 2) := by decide +kernel
theorem dN_addLacks_85 : decode bN_addLacks 85 = .ok (.iastore, 1) := by decide +kernel
theorem dN_addLacks_86 : decode bN_addLacks 86 = .ok (.iinc 1 1, 3) := by decide +kernel
theorem dN_addLacks_89 : decode bN_addLacks 89 = .ok (.goto (-87), 3) := by decide +kernel
theorem dN_addLacks_92 : decode bN_addLacks 92 = .ok (.return_, 1) := by decide +kernel
theorem dN_lossFor_0 : decode bN_lossFor 0 = .ok (.iconst 0, 1) := by decide +kernel
theorem dN_lossFor_1 : decode bN_lossFor 1 = .ok (.istore_n 2, 1) := by decide +kernel
theorem dN_lossFor_2 : decode bN_lossFor 2 = .ok (.iconst 1, 1) := by decide +kernel
theorem dN_lossFor_3 : decode bN_lossFor 3 = .ok (.istore_n 3, 1) := by decide +kernel
theorem dN_lossFor_4 : decode bN_lossFor 4 = .ok (.iload_n 3, 1) := by decide +kernel
theorem dN_lossFor_5 : decode bN_lossFor 5 = .ok (.bipush 12, 2) := by decide +kernel
theorem dN_lossFor_7 : decode bN_lossFor 7 = .ok (.if_icmp .gt 33, 3) := by decide +kernel
theorem dN_lossFor_10 : decode bN_lossFor 10 = .ok (.aload_n 0, 1) := by decide +kernel
theorem dN_lossFor_11 : decode bN_lossFor 11 = .ok (.getfield 49, 3) := by decide +kernel
theorem dN_lossFor_14 : decode bN_lossFor 14 = .ok (.iload_n 3, 1) := by decide +kernel
theorem dN_lossFor_15 : decode bN_lossFor 15 = .ok (.iaload, 1) := by decide +kernel
theorem dN_lossFor_16 : decode bN_lossFor 16 = .ok (.iconst (-1), 1) := by decide +kernel
theorem dN_lossFor_17 : decode bN_lossFor 17 = .ok (.if_icmp .eq 17, 3) := by decide +kernel
theorem dN_lossFor_20 : decode bN_lossFor 20 = .ok (.aload_n 0, 1) := by decide +kernel
theorem dN_lossFor_21 : decode bN_lossFor 21 = .ok (.getfield 49, 3) := by decide +kernel
theorem dN_lossFor_24 : decode bN_lossFor 24 = .ok (.iload_n 3, 1) := by decide +kernel
theorem dN_lossFor_25 : decode bN_lossFor 25 = .ok (.iaload, 1) := by decide +kernel
theorem dN_lossFor_26 : decode bN_lossFor 26 = .ok (.istore_n 2, 1) := by decide +kernel
theorem dN_lossFor_27 : decode bN_lossFor 27 = .ok (.iload_n 3, 1) := by decide +kernel
theorem dN_lossFor_28 : decode bN_lossFor 28 = .ok (.iload_n 1, 1) := by decide +kernel
theorem dN_lossFor_29 : decode bN_lossFor 29 = .ok (.if_icmp .lt 5, 3) := by decide +kernel
theorem dN_lossFor_32 : decode bN_lossFor 32 = .ok (.iload_n 2, 1) := by decide +kernel
theorem dN_lossFor_33 : decode bN_lossFor 33 = .ok (.ireturn, 1) := by decide +kernel
theorem dN_lossFor_34 : decode bN_lossFor 34 = .ok (.iinc 3 1, 3) := by decide +kernel
theorem dN_lossFor_37 : decode bN_lossFor 37 = .ok (.goto (-33), 3) := by decide +kernel
theorem dN_lossFor_40 : decode bN_lossFor 40 = .ok (.iload_n 2, 1) := by decide +kernel
theorem dN_lossFor_41 : decode bN_lossFor 41 = .ok (.ireturn, 1) := by decide +kernel
theorem dI_bitCount_0 : decode bI_bitCount 0 = .ok (.iload_n 0, 1) := by decide +kernel
theorem dI_bitCount_1 : decode bI_bitCount 1 = .ok (.iload_n 0, 1) := by decide +kernel
theorem dI_bitCount_2 : decode bI_bitCount 2 = .ok (.iconst 1, 1) := by decide +kernel
theorem dI_bitCount_3 : decode bI_bitCount 3 = .ok (.iushr, 1) := by decide +kernel
theorem dI_bitCount_4 : decode bI_bitCount 4 = .ok (.ldc_w 265, 3) := by decide +kernel
theorem dI_bitCount_7 : decode bI_bitCount 7 = .ok (.iand, 1) := by decide +kernel
theorem dI_bitCount_8 : decode bI_bitCount 8 = .ok (.isub, 1) := by decide +kernel
theorem dI_bitCount_9 : decode bI_bitCount 9 = .ok (.istore_n 0, 1) := by decide +kernel
theorem dI_bitCount_10 : decode bI_bitCount 10 = .ok (.iload_n 0, 1) := by decide +kernel
theorem dI_bitCount_11 : decode bI_bitCount 11 = .ok (.ldc_w 266, 3) := by decide +kernel
theorem dI_bitCount_14 : decode bI_bitCount 14 = .ok (.iand, 1) := by decide +kernel
theorem dI_bitCount_15 : decode bI_bitCount 15 = .ok (.iload_n 0, 1) := by decide +kernel
theorem dI_bitCount_16 : decode bI_bitCount 16 = .ok (.iconst 2, 1) := by decide +kernel
theorem dI_bitCount_17 : decode bI_bitCount 17 = .ok (.iushr, 1) := by decide +kernel
theorem dI_bitCount_18 : decode bI_bitCount 18 = .ok (.ldc_w 266, 3) := by decide +kernel
theorem dI_bitCount_21 : decode bI_bitCount 21 = .ok (.iand, 1) := by decide +kernel
theorem dI_bitCount_22 : decode bI_bitCount 22 = .ok (.iadd, 1) := by decide +kernel
theorem dI_bitCount_23 : decode bI_bitCount 23 = .ok (.istore_n 0, 1) := by decide +kernel
theorem dI_bitCount_24 : decode bI_bitCount 24 = .ok (.iload_n 0, 1) := by decide +kernel
theorem dI_bitCount_25 : decode bI_bitCount 25 = .ok (.iload_n 0, 1) := by decide +kernel
theorem dI_bitCount_26 : decode bI_bitCount 26 = .ok (.iconst 4, 1) := by decide +kernel
theorem dI_bitCount_27 : decode bI_bitCount 27 = .ok (.iushr, 1) := by decide +kernel
theorem dI_bitCount_28 : decode bI_bitCount 28 = .ok (.iadd, 1) := by decide +kernel
theorem dI_bitCount_29 : decode bI_bitCount 29 = .ok (.ldc_w 267, 3) := by decide +kernel
theorem dI_bitCount_32 : decode bI_bitCount 32 = .ok (.iand, 1) := by decide +kernel
theorem dI_bitCount_33 : decode bI_bitCount 33 = .ok (.istore_n 0, 1) := by decide +kernel
theorem dI_bitCount_34 : decode bI_bitCount 34 = .ok (.iload_n 0, 1) := by decide +kernel
theorem dI_bitCount_35 : decode bI_bitCount 35 = .ok (.iload_n 0, 1) := by decide +kernel
theorem dI_bitCount_36 : decode bI_bitCount 36 = .ok (.bipush 8, 2) := by decide +kernel
theorem dI_bitCount_38 : decode bI_bitCount 38 = .ok (.iushr, 1) := by decide +kernel
theorem dI_bitCount_39 : decode bI_bitCount 39 = .ok (.iadd, 1) := by decide +kernel
theorem dI_bitCount_40 : decode bI_bitCount 40 = .ok (.istore_n 0, 1) := by decide +kernel
theorem dI_bitCount_41 : decode bI_bitCount 41 = .ok (.iload_n 0, 1) := by decide +kernel
theorem dI_bitCount_42 : decode bI_bitCount 42 = .ok (.iload_n 0, 1) := by decide +kernel
theorem dI_bitCount_43 : decode bI_bitCount 43 = .ok (.bipush 16, 2) := by decide +kernel
theorem dI_bitCount_45 : decode bI_bitCount 45 = .ok (.iushr, 1) := by decide +kernel
theorem dI_bitCount_46 : decode bI_bitCount 46 = .ok (.iadd, 1) := by decide +kernel
theorem dI_bitCount_47 : decode bI_bitCount 47 = .ok (.istore_n 0, 1) := by decide +kernel
theorem dI_bitCount_48 : decode bI_bitCount 48 = .ok (.iload_n 0, 1) := by decide +kernel
theorem dI_bitCount_49 : decode bI_bitCount 49 = .ok (.bipush 63, 2) := by decide +kernel
theorem dI_bitCount_51 : decode bI_bitCount 51 = .ok (.iand, 1) := by decide +kernel
theorem dI_bitCount_52 : decode bI_bitCount 52 = .ok (.ireturn, 1) := by decide +kernel
theorem dA_fill_0 : decode bA_fill 0 = .ok (.iconst 0, 1) := by decide +kernel
theorem dA_fill_1 : decode bA_fill 1 = .ok (.istore_n 2, 1) := by decide +kernel
theorem dA_fill_2 : decode bA_fill 2 = .ok (.aload_n 0, 1) := by decide +kernel
theorem dA_fill_3 : decode bA_fill 3 = .ok (.arraylength, 1) := by decide +kernel
theorem dA_fill_4 : decode bA_fill 4 = .ok (.istore_n 3, 1) := by decide +kernel
theorem dA_fill_5 : decode bA_fill 5 = .ok (.iload_n 2, 1) := by decide +kernel
theorem dA_fill_6 : decode bA_fill 6 = .ok (.iload_n 3, 1) := by decide +kernel
theorem dA_fill_7 : decode bA_fill 7 = .ok (.if_icmp .ge 13, 3) := by decide +kernel
theorem dA_fill_10 : decode bA_fill 10 = .ok (.aload_n 0, 1) := by decide +kernel
theorem dA_fill_11 : decode bA_fill 11 = .ok (.iload_n 2, 1) := by decide +kernel
theorem dA_fill_12 : decode bA_fill 12 = .ok (.iload_n 1, 1) := by decide +kernel
theorem dA_fill_13 : decode bA_fill 13 = .ok (.iastore, 1) := by decide +kernel
theorem dA_fill_14 : decode bA_fill 14 = .ok (.iinc 2 1, 3) := by decide +kernel
theorem dA_fill_17 : decode bA_fill 17 = .ok (.goto (-12), 3) := by decide +kernel
theorem dA_fill_20 : decode bA_fill 20 = .ok (.return_, 1) := by decide +kernel

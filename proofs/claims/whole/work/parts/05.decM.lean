theorem dM_init_0 : decode bM_init 0 = .ok (.aload_n 0, 1) := by decide +kernel
theorem dM_init_1 : decode bM_init 1 = .ok (.invokespecial 1, 3) := by decide +kernel
theorem dM_init_4 : decode bM_init 4 = .ok (.aload_n 0, 1) := by decide +kernel
theorem dM_init_5 : decode bM_init 5 = .ok (.sipush 256, 3) := by decide +kernel
theorem dM_init_8 : decode bM_init 8 = .ok (.newarray .boolean, 2) := by decide +kernel
theorem dM_init_10 : decode bM_init 10 = .ok (.putfield 7, 3) := by decide +kernel
theorem dM_init_13 : decode bM_init 13 = .ok (.aload_n 0, 1) := by decide +kernel
theorem dM_init_14 : decode bM_init 14 = .ok (.bipush 16, 2) := by decide +kernel
theorem dM_init_16 : decode bM_init 16 = .ok (.putfield 13, 3) := by decide +kernel
theorem dM_init_19 : decode bM_init 19 = .ok (.aload_n 0, 1) := by decide +kernel
theorem dM_init_20 : decode bM_init 20 = .ok (.bipush 12, 2) := by decide +kernel
theorem dM_init_22 : decode bM_init 22 = .ok (.newarray .int, 2) := by decide +kernel
theorem dM_init_24 : decode bM_init 24 = .ok (.putfield 17, 3) := by decide +kernel
theorem dM_init_27 : decode bM_init 27 = .ok (.aload_n 0, 1) := by decide +kernel
theorem dM_init_28 : decode bM_init 28 = .ok (.bipush 12, 2) := by decide +kernel
theorem dM_init_30 : decode bM_init 30 = .ok (.newarray .int, 2) := by decide +kernel
theorem dM_init_32 : decode bM_init 32 = .ok (.putfield 21, 3) := by decide +kernel
theorem dM_init_35 : decode bM_init 35 = .ok (.aload_n 0, 1) := by decide +kernel
theorem dM_init_36 : decode bM_init 36 = .ok (.bipush 13, 2) := by decide +kernel
theorem dM_init_38 : decode bM_init 38 = .ok (.newarray .int, 2) := by decide +kernel
theorem dM_init_40 : decode bM_init 40 = .ok (.putfield 24, 3) := by decide +kernel
theorem dM_init_43 : decode bM_init 43 = .ok (.aload_n 0, 1) := by decide +kernel
theorem dM_init_44 : decode bM_init 44 = .ok (.sipush 256, 3) := by decide +kernel
theorem dM_init_47 : decode bM_init 47 = .ok (.newarray .int, 2) := by decide +kernel
theorem dM_init_49 : decode bM_init 49 = .ok (.putfield 27, 3) := by decide +kernel
theorem dM_init_52 : decode bM_init 52 = .ok (.aload_n 0, 1) := by decide +kernel
theorem dM_init_53 : decode bM_init 53 = .ok (.bipush 12, 2) := by decide +kernel
theorem dM_init_55 : decode bM_init 55 = .ok (.newarray .int, 2) := by decide +kernel
theorem dM_init_57 : decode bM_init 57 = .ok (.putfield 30, 3) := by decide +kernel
theorem dM_init_60 : decode bM_init 60 = .ok (.aload_n 0, 1) := by decide +kernel
theorem dM_init_61 : decode bM_init 61 = .ok (.bipush 12, 2) := by decide +kernel
theorem dM_init_63 : decode bM_init 63 = .ok (.newarray .int, 2) := by decide +kernel
theorem dM_init_65 : decode bM_init 65 = .ok (.putfield 33, 3) := by decide +kernel
theorem dM_init_68 : decode bM_init 68 = .ok (.aload_n 0, 1) := by decide +kernel
theorem dM_init_69 : decode bM_init 69 = .ok (.bipush 12, 2) := by decide +kernel
theorem dM_init_71 : decode bM_init 71 = .ok (.newarray .int, 2) := by decide +kernel
theorem dM_init_73 : decode bM_init 73 = .ok (.putfield 36, 3) := by decide +kernel
theorem dM_init_76 : decode bM_init 76 = .ok (.aload_n 0, 1) := by decide +kernel
theorem dM_init_77 : decode bM_init 77 = .ok (.bipush 12, 2) := by decide +kernel
theorem dM_init_79 : decode bM_init 79 = .ok (.newarray .int, 2) := by decide +kernel
theorem dM_init_81 : decode bM_init 81 = .ok (.putfield 39, 3) := by decide +kernel
theorem dM_init_84 : decode bM_init 84 = .ok (.aload_n 0, 1) := by decide +kernel
theorem dM_init_85 : decode bM_init 85 = .ok (.bipush 12, 2) := by decide +kernel
theorem dM_init_87 : decode bM_init 87 = .ok (.newarray .int, 2) := by decide +kernel
theorem dM_init_89 : decode bM_init 89 = .ok (.putfield 42, 3) := by decide +kernel
theorem dM_init_92 : decode bM_init 92 = .ok (.aload_n 0, 1) := by decide +kernel
theorem dM_init_93 : decode bM_init 93 = .ok (.iload_n 1, 1) := by decide +kernel
theorem dM_init_94 : decode bM_init 94 = .ok (.iconst 1, 1) := by decide +kernel
theorem dM_init_95 : decode bM_init 95 = .ok (.if_icmp .ge 7, 3) := by decide +kernel
theorem dM_init_98 : decode bM_init 98 = .ok (.iconst 1, 1) := by decide +kernel
theorem dM_init_99 : decode bM_init 99 = .ok (.goto 15, 3) := by decide +kernel
theorem dM_init_102 : decode bM_init 102 = .ok (.iload_n 1, 1) := by decide +kernel
theorem dM_init_103 : decode bM_init 103 = .ok (.bipush 16, 2) := by decide +kernel
theorem dM_init_105 : decode bM_init 105 = .ok (.if_icmp .le 8, 3) := by decide +kernel
theorem dM_init_108 : decode bM_init 108 = .ok (.bipush 16, 2) := by decide +kernel
theorem dM_init_110 : decode bM_init 110 = .ok (.goto 4, 3) := by decide +kernel
theorem dM_init_113 : decode bM_init 113 = .ok (.iload_n 1, 1) := by decide +kernel
theorem dM_init_114 : decode bM_init 114 = .ok (.putfield 45, 3) := by decide +kernel
theorem dM_init_117 : decode bM_init 117 = .ok (.aload_n 0, 1) := by decide +kernel
theorem dM_init_118 : decode bM_init 118 = .ok (.iload_n 2, 1) := by decide +kernel
theorem dM_init_119 : decode bM_init 119 = .ok (.iconst 1, 1) := by decide +kernel
theorem dM_init_120 : decode bM_init 120 = .ok (.if_icmp .ge 7, 3) := by decide +kernel
theorem dM_init_123 : decode bM_init 123 = .ok (.iconst 1, 1) := by decide +kernel
theorem dM_init_124 : decode bM_init 124 = .ok (.goto 15, 3) := by decide +kernel
theorem dM_init_127 : decode bM_init 127 = .ok (.iload_n 2, 1) := by decide +kernel
theorem dM_init_128 : decode bM_init 128 = .ok (.bipush 16, 2) := by decide +kernel
theorem dM_init_130 : decode bM_init 130 = .ok (.if_icmp .le 8, 3) := by decide +kernel
theorem dM_init_133 : decode bM_init 133 = .ok (.bipush 16, 2) := by decide +kernel
theorem dM_init_135 : decode bM_init 135 = .ok (.goto 4, 3) := by decide +kernel
theorem dM_init_138 : decode bM_init 138 = .ok (.iload_n 2, 1) := by decide +kernel
theorem dM_init_139 : decode bM_init 139 = .ok (.putfield 48, 3) := by decide +kernel
theorem dM_init_142 : decode bM_init 142 = .ok (.iconst 0, 1) := by decide +kernel
theorem dM_init_143 : decode bM_init 143 = .ok (.istore_n 3, 1) := by decide +kernel
theorem dM_init_144 : decode bM_init 144 = .ok (.iload_n 3, 1) := by decide +kernel
theorem dM_init_145 : decode bM_init 145 = .ok (.bipush 13, 2) := by decide +kernel
theorem dM_init_147 : decode bM_init 147 = .ok (.if_icmp .ge 16, 3) := by decide +kernel
theorem dM_init_150 : decode bM_init 150 = .ok (.aload_n 0, 1) := by decide +kernel
theorem dM_init_151 : decode bM_init 151 = .ok (.getfield 24, 3) := by decide +kernel
theorem dM_init_154 : decode bM_init 154 = .ok (.iload_n 3, 1) := by decide +kernel
theorem dM_init_155 : decode bM_init 155 = .ok (.iconst (-1), 1) := by decide +kernel
theorem dM_init_156 : decode bM_init 156 = .ok (.iastore, 1) := by decide +kernel
theorem dM_init_157 : decode bM_init 157 = .ok (.iinc 3 1, 3) := by decide +kernel
theorem dM_init_160 : decode bM_init 160 = .ok (.goto (-16), 3) := by decide +kernel
theorem dM_init_163 : decode bM_init 163 = .ok (.return_, 1) := by decide +kernel
theorem dM_thrown_0 : decode bM_thrown 0 = .ok (.aload_n 0, 1) := by decide +kernel
theorem dM_thrown_1 : decode bM_thrown 1 = .ok (.getfield 51, 3) := by decide +kernel
theorem dM_thrown_4 : decode bM_thrown 4 = .ok (.ireturn, 1) := by decide +kernel
theorem dM_isCell_0 : decode bM_isCell 0 = .ok (.iload_n 1, 1) := by decide +kernel
theorem dM_isCell_1 : decode bM_isCell 1 = .ok (.ifCond .lt 27, 3) := by decide +kernel
theorem dM_isCell_4 : decode bM_isCell 4 = .ok (.iload_n 1, 1) := by decide +kernel
theorem dM_isCell_5 : decode bM_isCell 5 = .ok (.aload_n 0, 1) := by decide +kernel
theorem dM_isCell_6 : decode bM_isCell 6 = .ok (.getfield 45, 3) := by decide +kernel
theorem dM_isCell_9 : decode bM_isCell 9 = .ok (.if_icmp .ge 19, 3) := by decide +kernel
theorem dM_isCell_12 : decode bM_isCell 12 = .ok (.iload_n 2, 1) := by decide +kernel
theorem dM_isCell_13 : decode bM_isCell 13 = .ok (.ifCond .lt 15, 3) := by decide +kernel
theorem dM_isCell_16 : decode bM_isCell 16 = .ok (.iload_n 2, 1) := by decide +kernel
theorem dM_isCell_17 : decode bM_isCell 17 = .ok (.aload_n 0, 1) := by decide +kernel
theorem dM_isCell_18 : decode bM_isCell 18 = .ok (.getfield 48, 3) := by decide +kernel
theorem dM_isCell_21 : decode bM_isCell 21 = .ok (.if_icmp .ge 7, 3) := by decide +kernel
theorem dM_isCell_24 : decode bM_isCell 24 = .ok (.iconst 1, 1) := by decide +kernel
theorem dM_isCell_25 : decode bM_isCell 25 = .ok (.goto 4, 3) := by decide +kernel
theorem dM_isCell_28 : decode bM_isCell 28 = .ok (.iconst 0, 1) := by decide +kernel
theorem dM_isCell_29 : decode bM_isCell 29 = .ok (.ireturn, 1) := by decide +kernel
theorem dM_isPlace_0 : decode bM_isPlace 0 = .ok (.iload_n 1, 1) := by decide +kernel
theorem dM_isPlace_1 : decode bM_isPlace 1 = .ok (.ifCond .lt 15, 3) := by decide +kernel
theorem dM_isPlace_4 : decode bM_isPlace 4 = .ok (.iload_n 1, 1) := by decide +kernel
theorem dM_isPlace_5 : decode bM_isPlace 5 = .ok (.aload_n 0, 1) := by decide +kernel
theorem dM_isPlace_6 : decode bM_isPlace 6 = .ok (.getfield 54, 3) := by decide +kernel
theorem dM_isPlace_9 : decode bM_isPlace 9 = .ok (.if_icmp .ge 7, 3) := by decide +kernel
theorem dM_isPlace_12 : decode bM_isPlace 12 = .ok (.iconst 1, 1) := by decide +kernel
theorem dM_isPlace_13 : decode bM_isPlace 13 = .ok (.goto 4, 3) := by decide +kernel
theorem dM_isPlace_16 : decode bM_isPlace 16 = .ok (.iconst 0, 1) := by decide +kernel
theorem dM_isPlace_17 : decode bM_isPlace 17 = .ok (.ireturn, 1) := by decide +kernel
theorem dM_isSet_0 : decode bM_isSet 0 = .ok (.iload_n 1, 1) := by decide +kernel
theorem dM_isSet_1 : decode bM_isSet 1 = .ok (.ifCond .lt 16, 3) := by decide +kernel
theorem dM_isSet_4 : decode bM_isSet 4 = .ok (.iload_n 1, 1) := by decide +kernel
theorem dM_isSet_5 : decode bM_isSet 5 = .ok (.aload_n 0, 1) := by decide +kernel
theorem dM_isSet_6 : decode bM_isSet 6 = .ok (.getfield 54, 3) := by decide +kernel
theorem dM_isSet_9 : decode bM_isSet 9 = .ok (.ishr, 1) := by decide +kernel
theorem dM_isSet_10 : decode bM_isSet 10 = .ok (.ifCond .ne 7, 3) := by decide +kernel
theorem dM_isSet_13 : decode bM_isSet 13 = .ok (.iconst 1, 1) := by decide +kernel
theorem dM_isSet_14 : decode bM_isSet 14 = .ok (.goto 4, 3) := by decide +kernel
theorem dM_isSet_17 : decode bM_isSet 17 = .ok (.iconst 0, 1) := by decide +kernel
theorem dM_isSet_18 : decode bM_isSet 18 = .ok (.ireturn, 1) := by decide +kernel
theorem dM_isFree_0 : decode bM_isFree 0 = .ok (.aload_n 0, 1) := by decide +kernel
theorem dM_isFree_1 : decode bM_isFree 1 = .ok (.getfield 7, 3) := by decide +kernel
theorem dM_isFree_4 : decode bM_isFree 4 = .ok (.bipush 16, 2) := by decide +kernel
theorem dM_isFree_6 : decode bM_isFree 6 = .ok (.iload_n 2, 1) := by decide +kernel
theorem dM_isFree_7 : decode bM_isFree 7 = .ok (.imul, 1) := by decide +kernel
theorem dM_isFree_8 : decode bM_isFree 8 = .ok (.iload_n 1, 1) := by decide +kernel
theorem dM_isFree_9 : decode bM_isFree 9 = .ok (.iadd, 1) := by decide +kernel
theorem dM_isFree_10 : decode bM_isFree 10 = .ok (.baload, 1) := by decide +kernel
theorem dM_isFree_11 : decode bM_isFree 11 = .ok (.ifCond .ne 7, 3) := by decide +kernel
theorem dM_isFree_14 : decode bM_isFree 14 = .ok (.iconst 1, 1) := by decide +kernel
theorem dM_isFree_15 : decode bM_isFree 15 = .ok (.goto 4, 3) := by decide +kernel
theorem dM_isFree_18 : decode bM_isFree 18 = .ok (.iconst 0, 1) := by decide +kernel
theorem dM_isFree_19 : decode bM_isFree 19 = .ok (.ireturn, 1) := by decide +kernel
theorem dM_wall_0 : decode bM_wall 0 = .ok (.aload_n 0, 1) := by decide +kernel
theorem dM_wall_1 : decode bM_wall 1 = .ok (.aload_n 0, 1) := by decide +kernel
theorem dM_wall_2 : decode bM_wall 2 = .ok (.iload_n 1, 1) := by decide +kernel
theorem dM_wall_3 : decode bM_wall 3 = .ok (.iload_n 2, 1) := by decide +kernel
theorem dM_wall_4 : decode bM_wall 4 = .ok (.invokevirtual 57, 3) := by decide +kernel
theorem dM_wall_7 : decode bM_wall 7 = .ok (.ifCond .eq 7, 3) := by decide +kernel
theorem dM_wall_10 : decode bM_wall 10 = .ok (.iconst 0, 1) := by decide +kernel
theorem dM_wall_11 : decode bM_wall 11 = .ok (.goto 4, 3) := by decide +kernel
theorem dM_wall_14 : decode bM_wall 14 = .ok (.iconst 1, 1) := by decide +kernel
theorem dM_wall_15 : decode bM_wall 15 = .ok (.putfield 51, 3) := by decide +kernel
theorem dM_wall_18 : decode bM_wall 18 = .ok (.aload_n 0, 1) := by decide +kernel
theorem dM_wall_19 : decode bM_wall 19 = .ok (.getfield 51, 3) := by decide +kernel
theorem dM_wall_22 : decode bM_wall 22 = .ok (.ifCond .le 5, 3) := by decide +kernel
theorem dM_wall_25 : decode bM_wall 25 = .ok (.iconst 0, 1) := by decide +kernel
theorem dM_wall_26 : decode bM_wall 26 = .ok (.ireturn, 1) := by decide +kernel
theorem dM_wall_27 : decode bM_wall 27 = .ok (.aload_n 0, 1) := by decide +kernel
theorem dM_wall_28 : decode bM_wall 28 = .ok (.getfield 7, 3) := by decide +kernel
theorem dM_wall_31 : decode bM_wall 31 = .ok (.bipush 16, 2) := by decide +kernel
theorem dM_wall_33 : decode bM_wall 33 = .ok (.iload_n 2, 1) := by decide +kernel
theorem dM_wall_34 : decode bM_wall 34 = .ok (.imul, 1) := by decide +kernel
theorem dM_wall_35 : decode bM_wall 35 = .ok (.iload_n 1, 1) := by decide +kernel
theorem dM_wall_36 : decode bM_wall 36 = .ok (.iadd, 1) := by decide +kernel
theorem dM_wall_37 : decode bM_wall 37 = .ok (.baload, 1) := by decide +kernel
theorem dM_wall_38 : decode bM_wall 38 = .ok (.istore 4, 2) := by decide +kernel
theorem dM_wall_40 : decode bM_wall 40 = .ok (.aload_n 0, 1) := by decide +kernel
theorem dM_wall_41 : decode bM_wall 41 = .ok (.getfield 7, 3) := by decide +kernel
theorem dM_wall_44 : decode bM_wall 44 = .ok (.bipush 16, 2) := by decide +kernel
theorem dM_wall_46 : decode bM_wall 46 = .ok (.iload_n 2, 1) := by decide +kernel
theorem dM_wall_47 : decode bM_wall 47 = .ok (.imul, 1) := by decide +kernel
theorem dM_wall_48 : decode bM_wall 48 = .ok (.iload_n 1, 1) := by decide +kernel
theorem dM_wall_49 : decode bM_wall 49 = .ok (.iadd, 1) := by decide +kernel
theorem dM_wall_50 : decode bM_wall 50 = .ok (.iload_n 3, 1) := by decide +kernel
theorem dM_wall_51 : decode bM_wall 51 = .ok (.bastore, 1) := by decide +kernel
theorem dM_wall_52 : decode bM_wall 52 = .ok (.iload 4, 2) := by decide +kernel
theorem dM_wall_54 : decode bM_wall 54 = .ok (.ireturn, 1) := by decide +kernel
theorem dM_reach_0 : decode bM_reach 0 = .ok (.aload_n 0, 1) := by decide +kernel
theorem dM_reach_1 : decode bM_reach 1 = .ok (.iload_n 1, 1) := by decide +kernel
theorem dM_reach_2 : decode bM_reach 2 = .ok (.iconst 1, 1) := by decide +kernel
theorem dM_reach_3 : decode bM_reach 3 = .ok (.if_icmp .lt 14, 3) := by decide +kernel
theorem dM_reach_6 : decode bM_reach 6 = .ok (.iload_n 1, 1) := by decide +kernel
theorem dM_reach_7 : decode bM_reach 7 = .ok (.sipush 400, 3) := by decide +kernel
theorem dM_reach_10 : decode bM_reach 10 = .ok (.if_icmp .gt 7, 3) := by decide +kernel
theorem dM_reach_13 : decode bM_reach 13 = .ok (.iconst 0, 1) := by decide +kernel
theorem dM_reach_14 : decode bM_reach 14 = .ok (.goto 4, 3) := by decide +kernel
theorem dM_reach_17 : decode bM_reach 17 = .ok (.iconst 1, 1) := by decide +kernel
theorem dM_reach_18 : decode bM_reach 18 = .ok (.putfield 51, 3) := by decide +kernel
theorem dM_reach_21 : decode bM_reach 21 = .ok (.aload_n 0, 1) := by decide +kernel
theorem dM_reach_22 : decode bM_reach 22 = .ok (.getfield 51, 3) := by decide +kernel
theorem dM_reach_25 : decode bM_reach 25 = .ok (.ifCond .le 5, 3) := by decide +kernel
theorem dM_reach_28 : decode bM_reach 28 = .ok (.iconst 0, 1) := by decide +kernel
theorem dM_reach_29 : decode bM_reach 29 = .ok (.ireturn, 1) := by decide +kernel
theorem dM_reach_30 : decode bM_reach 30 = .ok (.aload_n 0, 1) := by decide +kernel
theorem dM_reach_31 : decode bM_reach 31 = .ok (.getfield 13, 3) := by decide +kernel
theorem dM_reach_34 : decode bM_reach 34 = .ok (.istore_n 2, 1) := by decide +kernel
theorem dM_reach_35 : decode bM_reach 35 = .ok (.aload_n 0, 1) := by decide +kernel
theorem dM_reach_36 : decode bM_reach 36 = .ok (.iload_n 1, 1) := by decide +kernel
theorem dM_reach_37 : decode bM_reach 37 = .ok (.putfield 13, 3) := by decide +kernel
theorem dM_reach_40 : decode bM_reach 40 = .ok (.iload_n 2, 1) := by decide +kernel
theorem dM_reach_41 : decode bM_reach 41 = .ok (.ireturn, 1) := by decide +kernel
theorem dM_place_0 : decode bM_place 0 = .ok (.aload_n 0, 1) := by decide +kernel
theorem dM_place_1 : decode bM_place 1 = .ok (.aload_n 0, 1) := by decide +kernel
theorem dM_place_2 : decode bM_place 2 = .ok (.iload_n 1, 1) := by decide +kernel
theorem dM_place_3 : decode bM_place 3 = .ok (.iload_n 2, 1) := by decide +kernel
theorem dM_place_4 : decode bM_place 4 = .ok (.invokevirtual 57, 3) := by decide +kernel
theorem dM_place_7 : decode bM_place 7 = .ok (.ifCond .eq 7, 3) := by decide +kernel
theorem dM_place_10 : decode bM_place 10 = .ok (.iconst 0, 1) := by decide +kernel
theorem dM_place_11 : decode bM_place 11 = .ok (.goto 4, 3) := by decide +kernel
theorem dM_place_14 : decode bM_place 14 = .ok (.iconst 1, 1) := by decide +kernel
theorem dM_place_15 : decode bM_place 15 = .ok (.putfield 51, 3) := by decide +kernel
theorem dM_place_18 : decode bM_place 18 = .ok (.aload_n 0, 1) := by decide +kernel
theorem dM_place_19 : decode bM_place 19 = .ok (.getfield 51, 3) := by decide +kernel
theorem dM_place_22 : decode bM_place 22 = .ok (.ifCond .le 5, 3) := by decide +kernel
theorem dM_place_25 : decode bM_place 25 = .ok (.iconst 0, 1) := by decide +kernel
theorem dM_place_26 : decode bM_place 26 = .ok (.ireturn, 1) := by decide +kernel
theorem dM_place_27 : decode bM_place 27 = .ok (.iconst 0, 1) := by decide +kernel
theorem dM_place_28 : decode bM_place 28 = .ok (.istore_n 3, 1) := by decide +kernel
theorem dM_place_29 : decode bM_place 29 = .ok (.iconst 0, 1) := by decide +kernel
theorem dM_place_30 : decode bM_place 30 = .ok (.istore 4, 2) := by decide +kernel
theorem dM_place_32 : decode bM_place 32 = .ok (.iload 4, 2) := by decide +kernel
theorem dM_place_34 : decode bM_place 34 = .ok (.aload_n 0, 1) := by decide +kernel
theorem dM_place_35 : decode bM_place 35 = .ok (.getfield 54, 3) := by decide +kernel
theorem dM_place_38 : decode bM_place 38 = .ok (.if_icmp .ge 41, 3) := by decide +kernel
theorem dM_place_41 : decode bM_place 41 = .ok (.iload_n 3, 1) := by decide +kernel
theorem dM_place_42 : decode bM_place 42 = .ok (.ifCond .ne 25, 3) := by decide +kernel
theorem dM_place_45 : decode bM_place 45 = .ok (.aload_n 0, 1) := by decide +kernel
theorem dM_place_46 : decode bM_place 46 = .ok (.getfield 17, 3) := by decide +kernel
theorem dM_place_49 : decode bM_place 49 = .ok (.iload 4, 2) := by decide +kernel
theorem dM_place_51 : decode bM_place 51 = .ok (.iaload, 1) := by decide +kernel
theorem dM_place_52 : decode bM_place 52 = .ok (.iload_n 1, 1) := by decide +kernel
theorem dM_place_53 : decode bM_place 53 = .ok (.if_icmp .ne 18, 3) := by decide +kernel
theorem dM_place_56 : decode bM_place 56 = .ok (.aload_n 0, 1) := by decide +kernel
theorem dM_place_57 : decode bM_place 57 = .ok (.getfield 21, 3) := by decide +kernel
theorem dM_place_60 : decode bM_place 60 = .ok (.iload 4, 2) := by decide +kernel
theorem dM_place_62 : decode bM_place 62 = .ok (.iaload, 1) := by decide +kernel
theorem dM_place_63 : decode bM_place 63 = .ok (.iload_n 2, 1) := by decide +kernel
theorem dM_place_64 : decode bM_place 64 = .ok (.if_icmp .ne 7, 3) := by decide +kernel
theorem dM_place_67 : decode bM_place 67 = .ok (.iconst 1, 1) := by decide +kernel
theorem dM_place_68 : decode bM_place 68 = .ok (.goto 4, 3) := by decide +kernel
theorem dM_place_71 : decode bM_place 71 = .ok (.iconst 0, 1) := by decide +kernel
theorem dM_place_72 : decode bM_place 72 = .ok (.istore_n 3, 1) := by decide +kernel
theorem dM_place_73 : decode bM_place 73 = .ok (.iinc 4 1, 3) := by decide +kernel
theorem dM_place_76 : decode bM_place 76 = .ok (.goto (-44), 3) := by decide +kernel
theorem dM_place_79 : decode bM_place 79 = .ok (.aload_n 0, 1) := by decide +kernel
theorem dM_place_80 : decode bM_place 80 = .ok (.iload_n 3, 1) := by decide +kernel
theorem dM_place_81 : decode bM_place 81 = .ok (.ifCond .ne 21, 3) := by decide +kernel
theorem dM_place_84 : decode bM_place 84 = .ok (.aload_n 0, 1) := by decide +kernel
theorem dM_place_85 : decode bM_place 85 = .ok (.iload_n 1, 1) := by decide +kernel
theorem dM_place_86 : decode bM_place 86 = .ok (.iload_n 2, 1) := by decide +kernel
theorem dM_place_87 : decode bM_place 87 = .ok (.invokevirtual 61, 3) := by decide +kernel
theorem dM_place_90 : decode bM_place 90 = .ok (.ifCond .eq 12, 3) := by decide +kernel
theorem dM_place_93 : decode bM_place 93 = .ok (.aload_n 0, 1) := by decide +kernel
theorem dM_place_94 : decode bM_place 94 = .ok (.getfield 54, 3) := by decide +kernel
theorem dM_place_97 : decode bM_place 97 = .ok (.bipush 12, 2) := by decide +kernel
theorem dM_place_99 : decode bM_place 99 = .ok (.if_icmp .ne 7, 3) := by decide +kernel
theorem dM_place_102 : decode bM_place 102 = .ok (.iconst 2, 1) := by decide +kernel
theorem dM_place_103 : decode bM_place 103 = .ok (.goto 4, 3) := by decide +kernel
theorem dM_place_106 : decode bM_place 106 = .ok (.iconst 0, 1) := by decide +kernel
theorem dM_place_107 : decode bM_place 107 = .ok (.putfield 51, 3) := by decide +kernel
theorem dM_place_110 : decode bM_place 110 = .ok (.aload_n 0, 1) := by decide +kernel
theorem dM_place_111 : decode bM_place 111 = .ok (.getfield 51, 3) := by decide +kernel
theorem dM_place_114 : decode bM_place 114 = .ok (.ifCond .le 5, 3) := by decide +kernel
theorem dM_place_117 : decode bM_place 117 = .ok (.iconst 0, 1) := by decide +kernel
theorem dM_place_118 : decode bM_place 118 = .ok (.ireturn, 1) := by decide +kernel
theorem dM_place_119 : decode bM_place 119 = .ok (.aload_n 0, 1) := by decide +kernel
theorem dM_place_120 : decode bM_place 120 = .ok (.getfield 17, 3) := by decide +kernel
theorem dM_place_123 : decode bM_place 123 = .ok (.aload_n 0, 1) := by decide +kernel
theorem dM_place_124 : decode bM_place 124 = .ok (.getfield 54, 3) := by decide +kernel
theorem dM_place_127 : decode bM_place 127 = .ok (.iload_n 1, 1) := by decide +kernel
theorem dM_place_128 : decode bM_place 128 = .ok (.iastore, 1) := by decide +kernel
theorem dM_place_129 : decode bM_place 129 = .ok (.aload_n 0, 1) := by decide +kernel
theorem dM_place_130 : decode bM_place 130 = .ok (.getfield 21, 3) := by decide +kernel
theorem dM_place_133 : decode bM_place 133 = .ok (.aload_n 0, 1) := by decide +kernel
theorem dM_place_134 : decode bM_place 134 = .ok (.getfield 54, 3) := by decide +kernel
theorem dM_place_137 : decode bM_place 137 = .ok (.iload_n 2, 1) := by decide +kernel
theorem dM_place_138 : decode bM_place 138 = .ok (.iastore, 1) := by decide +kernel
theorem dM_place_139 : decode bM_place 139 = .ok (.aload_n 0, 1) := by decide +kernel
theorem dM_place_140 : decode bM_place 140 = .ok (.dup, 1) := by decide +kernel
theorem dM_place_141 : decode bM_place 141 = .ok (.getfield 54, 3) := by decide +kernel
theorem dM_place_144 : decode bM_place 144 = .ok (.iconst 1, 1) := by decide +kernel
theorem dM_place_145 : decode bM_place 145 = .ok (.iadd, 1) := by decide +kernel
theorem dM_place_146 : decode bM_place 146 = .ok (.putfield 54, 3) := by decide +kernel
theorem dM_place_149 : decode bM_place 149 = .ok (.aload_n 0, 1) := by decide +kernel
theorem dM_place_150 : decode bM_place 150 = .ok (.getfield 54, 3) := by decide +kernel
theorem dM_place_153 : decode bM_place 153 = .ok (.iconst 1, 1) := by decide +kernel
theorem dM_place_154 : decode bM_place 154 = .ok (.isub, 1) := by decide +kernel
theorem dM_place_155 : decode bM_place 155 = .ok (.ireturn, 1) := by decide +kernel
theorem dM_least_0 : decode bM_least 0 = .ok (.iload_n 0, 1) := by decide +kernel
theorem dM_least_1 : decode bM_least 1 = .ok (.iload_n 1, 1) := by decide +kernel
theorem dM_least_2 : decode bM_least 2 = .ok (.if_icmp .ge 7, 3) := by decide +kernel
theorem dM_least_5 : decode bM_least 5 = .ok (.iload_n 0, 1) := by decide +kernel
theorem dM_least_6 : decode bM_least 6 = .ok (.goto 4, 3) := by decide +kernel
theorem dM_least_9 : decode bM_least 9 = .ok (.iload_n 1, 1) := by decide +kernel
theorem dM_least_10 : decode bM_least 10 = .ok (.ireturn, 1) := by decide +kernel
theorem dM_most_0 : decode bM_most 0 = .ok (.iload_n 0, 1) := by decide +kernel
theorem dM_most_1 : decode bM_most 1 = .ok (.iload_n 1, 1) := by decide +kernel
theorem dM_most_2 : decode bM_most 2 = .ok (.if_icmp .le 7, 3) := by decide +kernel
theorem dM_most_5 : decode bM_most 5 = .ok (.iload_n 0, 1) := by decide +kernel
theorem dM_most_6 : decode bM_most 6 = .ok (.goto 4, 3) := by decide +kernel
theorem dM_most_9 : decode bM_most 9 = .ok (.iload_n 1, 1) := by decide +kernel
theorem dM_most_10 : decode bM_most 10 = .ok (.ireturn, 1) := by decide +kernel
theorem dM_side_0 : decode bM_side 0 = .ok (.iload_n 2, 1) := by decide +kernel
theorem dM_side_1 : decode bM_side 1 = .ok (.iload_n 0, 1) := by decide +kernel
theorem dM_side_2 : decode bM_side 2 = .ok (.isub, 1) := by decide +kernel
theorem dM_side_3 : decode bM_side 3 = .ok (.iload 5, 2) := by decide +kernel
theorem dM_side_5 : decode bM_side 5 = .ok (.iload_n 1, 1) := by decide +kernel
theorem dM_side_6 : decode bM_side 6 = .ok (.isub, 1) := by decide +kernel
theorem dM_side_7 : decode bM_side 7 = .ok (.imul, 1) := by decide +kernel
theorem dM_side_8 : decode bM_side 8 = .ok (.iload_n 3, 1) := by decide +kernel
theorem dM_side_9 : decode bM_side 9 = .ok (.iload_n 1, 1) := by decide +kernel
theorem dM_side_10 : decode bM_side 10 = .ok (.isub, 1) := by decide +kernel
theorem dM_side_11 : decode bM_side 11 = .ok (.iload 4, 2) := by decide +kernel
theorem dM_side_13 : decode bM_side 13 = .ok (.iload_n 0, 1) := by decide +kernel
theorem dM_side_14 : decode bM_side 14 = .ok (.isub, 1) := by decide +kernel
theorem dM_side_15 : decode bM_side 15 = .ok (.imul, 1) := by decide +kernel
theorem dM_side_16 : decode bM_side 16 = .ok (.isub, 1) := by decide +kernel
theorem dM_side_17 : decode bM_side 17 = .ok (.ireturn, 1) := by decide +kernel
theorem dM_crosses_0 : decode bM_crosses 0 = .ok (.iconst 2, 1) := by decide +kernel
theorem dM_crosses_1 : decode bM_crosses 1 = .ok (.iload_n 0, 1) := by decide +kernel
theorem dM_crosses_2 : decode bM_crosses 2 = .ok (.imul, 1) := by decide +kernel
theorem dM_crosses_3 : decode bM_crosses 3 = .ok (.iconst 1, 1) := by decide +kernel
theorem dM_crosses_4 : decode bM_crosses 4 = .ok (.iadd, 1) := by decide +kernel
theorem dM_crosses_5 : decode bM_crosses 5 = .ok (.istore 6, 2) := by decide +kernel
theorem dM_crosses_7 : decode bM_crosses 7 = .ok (.iconst 2, 1) := by decide +kernel
theorem dM_crosses_8 : decode bM_crosses 8 = .ok (.iload_n 1, 1) := by decide +kernel
theorem dM_crosses_9 : decode bM_crosses 9 = .ok (.imul, 1) := by decide +kernel
theorem dM_crosses_10 : decode bM_crosses 10 = .ok (.iconst 1, 1) := by decide +kernel
theorem dM_crosses_11 : decode bM_crosses 11 = .ok (.iadd, 1) := by decide +kernel
theorem dM_crosses_12 : decode bM_crosses 12 = .ok (.istore 7, 2) := by decide +kernel
theorem dM_crosses_14 : decode bM_crosses 14 = .ok (.iconst 2, 1) := by decide +kernel
theorem dM_crosses_15 : decode bM_crosses 15 = .ok (.iload_n 2, 1) := by decide +kernel
theorem dM_crosses_16 : decode bM_crosses 16 = .ok (.imul, 1) := by decide +kernel
theorem dM_crosses_17 : decode bM_crosses 17 = .ok (.iconst 1, 1) := by decide +kernel
theorem dM_crosses_18 : decode bM_crosses 18 = .ok (.iadd, 1) := by decide +kernel
theorem dM_crosses_19 : decode bM_crosses 19 = .ok (.istore 8, 2) := by decide +kernel
theorem dM_crosses_21 : decode bM_crosses 21 = .ok (.iconst 2, 1) := by decide +kernel
theorem dM_crosses_22 : decode bM_crosses 22 = .ok (.iload_n 3, 1) := by decide +kernel
theorem dM_crosses_23 : decode bM_crosses 23 = .ok (.imul, 1) := by decide +kernel
theorem dM_crosses_24 : decode bM_crosses 24 = .ok (.iconst 1, 1) := by decide +kernel
theorem dM_crosses_25 : decode bM_crosses 25 = .ok (.iadd, 1) := by decide +kernel
theorem dM_crosses_26 : decode bM_crosses 26 = .ok (.istore 9, 2) := by decide +kernel
theorem dM_crosses_28 : decode bM_crosses 28 = .ok (.iconst 2, 1) := by decide +kernel
theorem dM_crosses_29 : decode bM_crosses 29 = .ok (.iload 4, 2) := by decide +kernel
theorem dM_crosses_31 : decode bM_crosses 31 = .ok (.imul, 1) := by decide +kernel
theorem dM_crosses_32 : decode bM_crosses 32 = .ok (.istore 10, 2) := by decide +kernel
theorem dM_crosses_34 : decode bM_crosses 34 = .ok (.iconst 2, 1) := by decide +kernel
theorem dM_crosses_35 : decode bM_crosses 35 = .ok (.iload 5, 2) := by decide +kernel
theorem dM_crosses_37 : decode bM_crosses 37 = .ok (.imul, 1) := by decide +kernel
theorem dM_crosses_38 : decode bM_crosses 38 = .ok (.istore 11, 2) := by decide +kernel
theorem dM_crosses_40 : decode bM_crosses 40 = .ok (.iload 6, 2) := by decide +kernel
theorem dM_crosses_42 : decode bM_crosses 42 = .ok (.iload 8, 2) := by decide +kernel
theorem dM_crosses_44 : decode bM_crosses 44 = .ok (.invokestatic 64, 3) := by decide +kernel
theorem dM_crosses_47 : decode bM_crosses 47 = .ok (.iload 10, 2) := by decide +kernel
theorem dM_crosses_49 : decode bM_crosses 49 = .ok (.if_icmp .le 43, 3) := by decide +kernel
theorem dM_crosses_52 : decode bM_crosses 52 = .ok (.iload 6, 2) := by decide +kernel
theorem dM_crosses_54 : decode bM_crosses 54 = .ok (.iload 8, 2) := by decide +kernel
theorem dM_crosses_56 : decode bM_crosses 56 = .ok (.invokestatic 68, 3) := by decide +kernel
theorem dM_crosses_59 : decode bM_crosses 59 = .ok (.iload 10, 2) := by decide +kernel
theorem dM_crosses_61 : decode bM_crosses 61 = .ok (.iconst 2, 1) := by decide +kernel
theorem dM_crosses_62 : decode bM_crosses 62 = .ok (.iadd, 1) := by decide +kernel
theorem dM_crosses_63 : decode bM_crosses 63 = .ok (.if_icmp .ge 29, 3) := by decide +kernel
theorem dM_crosses_66 : decode bM_crosses 66 = .ok (.iload 7, 2) := by decide +kernel
theorem dM_crosses_68 : decode bM_crosses 68 = .ok (.iload 9, 2) := by decide +kernel
theorem dM_crosses_70 : decode bM_crosses 70 = .ok (.invokestatic 64, 3) := by decide +kernel
theorem dM_crosses_73 : decode bM_crosses 73 = .ok (.iload 11, 2) := by decide +kernel
theorem dM_crosses_75 : decode bM_crosses 75 = .ok (.if_icmp .le 17, 3) := by decide +kernel
theorem dM_crosses_78 : decode bM_crosses 78 = .ok (.iload 7, 2) := by decide +kernel
theorem dM_crosses_80 : decode bM_crosses 80 = .ok (.iload 9, 2) := by decide +kernel
theorem dM_crosses_82 : decode bM_crosses 82 = .ok (.invokestatic 68, 3) := by decide +kernel
theorem dM_crosses_85 : decode bM_crosses 85 = .ok (.iload 11, 2) := by decide +kernel
theorem dM_crosses_87 : decode bM_crosses 87 = .ok (.iconst 2, 1) := by decide +kernel
theorem dM_crosses_88 : decode bM_crosses 88 = .ok (.iadd, 1) := by decide +kernel
theorem dM_crosses_89 : decode bM_crosses 89 = .ok (.if_icmp .lt 5, 3) := by decide +kernel
theorem dM_crosses_92 : decode bM_crosses 92 = .ok (.iconst 0, 1) := by decide +kernel
theorem dM_crosses_93 : decode bM_crosses 93 = .ok (.ireturn, 1) := by decide +kernel
theorem dM_crosses_94 : decode bM_crosses 94 = .ok (.iload 6, 2) := by decide +kernel
theorem dM_crosses_96 : decode bM_crosses 96 = .ok (.iload 7, 2) := by decide +kernel
theorem dM_crosses_98 : decode bM_crosses 98 = .ok (.iload 8, 2) := by decide +kernel
theorem dM_crosses_100 : decode bM_crosses 100 = .ok (.iload 9, 2) := by decide +kernel
theorem dM_crosses_102 : decode bM_crosses 102 = .ok (.iload 10, 2) := by decide +kernel
theorem dM_crosses_104 : decode bM_crosses 104 = .ok (.iload 11, 2) := by decide +kernel
theorem dM_crosses_106 : decode bM_crosses 106 = .ok (.invokestatic 71, 3) := by decide +kernel
theorem dM_crosses_109 : decode bM_crosses 109 = .ok (.istore 12, 2) := by decide +kernel
theorem dM_crosses_111 : decode bM_crosses 111 = .ok (.iload 6, 2) := by decide +kernel
theorem dM_crosses_113 : decode bM_crosses 113 = .ok (.iload 7, 2) := by decide +kernel
theorem dM_crosses_115 : decode bM_crosses 115 = .ok (.iload 8, 2) := by decide +kernel
theorem dM_crosses_117 : decode bM_crosses 117 = .ok (.iload 9, 2) := by decide +kernel
theorem dM_crosses_119 : decode bM_crosses 119 = .ok (.iload 10, 2) := by decide +kernel
theorem dM_crosses_121 : decode bM_crosses 121 = .ok (.iconst 2, 1) := by decide +kernel
theorem dM_crosses_122 : decode bM_crosses 122 = .ok (.iadd, 1) := by decide +kernel
theorem dM_crosses_123 : decode bM_crosses 123 = .ok (.iload 11, 2) := by decide +kernel
theorem dM_crosses_125 : decode bM_crosses 125 = .ok (.invokestatic 71, 3) := by decide +kernel
theorem dM_crosses_128 : decode bM_crosses 128 = .ok (.istore 13, 2) := by decide +kernel
theorem dM_crosses_130 : decode bM_crosses 130 = .ok (.iload 6, 2) := by decide +kernel
theorem dM_crosses_132 : decode bM_crosses 132 = .ok (.iload 7, 2) := by decide +kernel
theorem dM_crosses_134 : decode bM_crosses 134 = .ok (.iload 8, 2) := by decide +kernel
theorem dM_crosses_136 : decode bM_crosses 136 = .ok (.iload 9, 2) := by decide +kernel
theorem dM_crosses_138 : decode bM_crosses 138 = .ok (.iload 10, 2) := by decide +kernel
theorem dM_crosses_140 : decode bM_crosses 140 = .ok (.iload 11, 2) := by decide +kernel
theorem dM_crosses_142 : decode bM_crosses 142 = .ok (.iconst 2, 1) := by decide +kernel
theorem dM_crosses_143 : decode bM_crosses 143 = .ok (.iadd, 1) := by decide +kernel
theorem dM_crosses_144 : decode bM_crosses 144 = .ok (.invokestatic 71, 3) := by decide +kernel
theorem dM_crosses_147 : decode bM_crosses 147 = .ok (.istore 14, 2) := by decide +kernel
theorem dM_crosses_149 : decode bM_crosses 149 = .ok (.iload 6, 2) := by decide +kernel
theorem dM_crosses_151 : decode bM_crosses 151 = .ok (.iload 7, 2) := by decide +kernel
theorem dM_crosses_153 : decode bM_crosses 153 = .ok (.iload 8, 2) := by decide +kernel
theorem dM_crosses_155 : decode bM_crosses 155 = .ok (.iload 9, 2) := by decide +kernel
theorem dM_crosses_157 : decode bM_crosses 157 = .ok (.iload 10, 2) := by decide +kernel
theorem dM_crosses_159 : decode bM_crosses 159 = .ok (.iconst 2, 1) := by decide +kernel
theorem dM_crosses_160 : decode bM_crosses 160 = .ok (.iadd, 1) := by decide +kernel
theorem dM_crosses_161 : decode bM_crosses 161 = .ok (.iload 11, 2) := by decide +kernel
theorem dM_crosses_163 : decode bM_crosses 163 = .ok (.iconst 2, 1) := by decide +kernel
theorem dM_crosses_164 : decode bM_crosses 164 = .ok (.iadd, 1) := by decide +kernel
theorem dM_crosses_165 : decode bM_crosses 165 = .ok (.invokestatic 71, 3) := by decide +kernel
theorem dM_crosses_168 : decode bM_crosses 168 = .ok (.istore 15, 2) := by decide +kernel
theorem dM_crosses_170 : decode bM_crosses 170 = .ok (.iload 12, 2) := by decide +kernel
theorem dM_crosses_172 : decode bM_crosses 172 = .ok (.iload 13, 2) := by decide +kernel
theorem dM_crosses_174 : decode bM_crosses 174 = .ok (.invokestatic 68, 3) := by decide +kernel
theorem dM_crosses_177 : decode bM_crosses 177 = .ok (.iload 14, 2) := by decide +kernel
theorem dM_crosses_179 : decode bM_crosses 179 = .ok (.iload 15, 2) := by decide +kernel
theorem dM_crosses_181 : decode bM_crosses 181 = .ok (.invokestatic 68, 3) := by decide +kernel
theorem dM_crosses_184 : decode bM_crosses 184 = .ok (.invokestatic 68, 3) := by decide +kernel
theorem dM_crosses_187 : decode bM_crosses 187 = .ok (.istore 16, 2) := by decide +kernel
theorem dM_crosses_189 : decode bM_crosses 189 = .ok (.iload 12, 2) := by decide +kernel
theorem dM_crosses_191 : decode bM_crosses 191 = .ok (.iload 13, 2) := by decide +kernel
theorem dM_crosses_193 : decode bM_crosses 193 = .ok (.invokestatic 64, 3) := by decide +kernel
theorem dM_crosses_196 : decode bM_crosses 196 = .ok (.iload 14, 2) := by decide +kernel
theorem dM_crosses_198 : decode bM_crosses 198 = .ok (.iload 15, 2) := by decide +kernel
theorem dM_crosses_200 : decode bM_crosses 200 = .ok (.invokestatic 64, 3) := by decide +kernel
theorem dM_crosses_203 : decode bM_crosses 203 = .ok (.invokestatic 64, 3) := by decide +kernel
theorem dM_crosses_206 : decode bM_crosses 206 = .ok (.istore 17, 2) := by decide +kernel
theorem dM_crosses_208 : decode bM_crosses 208 = .ok (.iload 16, 2) := by decide +kernel
theorem dM_crosses_210 : decode bM_crosses 210 = .ok (.ifCond .ge 12, 3) := by decide +kernel
theorem dM_crosses_213 : decode bM_crosses 213 = .ok (.iload 17, 2) := by decide +kernel
theorem dM_crosses_215 : decode bM_crosses 215 = .ok (.ifCond .le 7, 3) := by decide +kernel
theorem dM_crosses_218 : decode bM_crosses 218 = .ok (.iconst 1, 1) := by decide +kernel
theorem dM_crosses_219 : decode bM_crosses 219 = .ok (.goto 4, 3) := by decide +kernel
theorem dM_crosses_222 : decode bM_crosses 222 = .ok (.iconst 0, 1) := by decide +kernel
theorem dM_crosses_223 : decode bM_crosses 223 = .ok (.ireturn, 1) := by decide +kernel
theorem dM_sees_0 : decode bM_sees 0 = .ok (.aload_n 0, 1) := by decide +kernel
theorem dM_sees_1 : decode bM_sees 1 = .ok (.iload_n 1, 1) := by decide +kernel
theorem dM_sees_2 : decode bM_sees 2 = .ok (.iload_n 2, 1) := by decide +kernel
theorem dM_sees_3 : decode bM_sees 3 = .ok (.invokevirtual 61, 3) := by decide +kernel
theorem dM_sees_6 : decode bM_sees 6 = .ok (.ifCond .eq 17, 3) := by decide +kernel
theorem dM_sees_9 : decode bM_sees 9 = .ok (.aload_n 0, 1) := by decide +kernel
theorem dM_sees_10 : decode bM_sees 10 = .ok (.iload_n 3, 1) := by decide +kernel
theorem dM_sees_11 : decode bM_sees 11 = .ok (.iload 4, 2) := by decide +kernel
theorem dM_sees_13 : decode bM_sees 13 = .ok (.invokevirtual 61, 3) := by decide +kernel
theorem dM_sees_16 : decode bM_sees 16 = .ok (.ifCond .eq 7, 3) := by decide +kernel
theorem dM_sees_19 : decode bM_sees 19 = .ok (.iconst 1, 1) := by decide +kernel
theorem dM_sees_20 : decode bM_sees 20 = .ok (.goto 4, 3) := by decide +kernel
theorem dM_sees_23 : decode bM_sees 23 = .ok (.iconst 0, 1) := by decide +kernel
theorem dM_sees_24 : decode bM_sees 24 = .ok (.istore 5, 2) := by decide +kernel
theorem dM_sees_26 : decode bM_sees 26 = .ok (.iload_n 2, 1) := by decide +kernel
theorem dM_sees_27 : decode bM_sees 27 = .ok (.iload 4, 2) := by decide +kernel
theorem dM_sees_29 : decode bM_sees 29 = .ok (.invokestatic 68, 3) := by decide +kernel
theorem dM_sees_32 : decode bM_sees 32 = .ok (.istore 6, 2) := by decide +kernel
theorem dM_sees_34 : decode bM_sees 34 = .ok (.iload 6, 2) := by decide +kernel
theorem dM_sees_36 : decode bM_sees 36 = .ok (.iload_n 2, 1) := by decide +kernel
theorem dM_sees_37 : decode bM_sees 37 = .ok (.iload 4, 2) := by decide +kernel
theorem dM_sees_39 : decode bM_sees 39 = .ok (.invokestatic 64, 3) := by decide +kernel
theorem dM_sees_42 : decode bM_sees 42 = .ok (.if_icmp .gt 75, 3) := by decide +kernel
theorem dM_sees_45 : decode bM_sees 45 = .ok (.iload 5, 2) := by decide +kernel
theorem dM_sees_47 : decode bM_sees 47 = .ok (.ifCond .eq 70, 3) := by decide +kernel
theorem dM_sees_50 : decode bM_sees 50 = .ok (.iload_n 1, 1) := by decide +kernel
theorem dM_sees_51 : decode bM_sees 51 = .ok (.iload_n 3, 1) := by decide +kernel
theorem dM_sees_52 : decode bM_sees 52 = .ok (.invokestatic 68, 3) := by decide +kernel
theorem dM_sees_55 : decode bM_sees 55 = .ok (.istore 7, 2) := by decide +kernel
theorem dM_sees_57 : decode bM_sees 57 = .ok (.iload 7, 2) := by decide +kernel
theorem dM_sees_59 : decode bM_sees 59 = .ok (.iload_n 1, 1) := by decide +kernel
theorem dM_sees_60 : decode bM_sees 60 = .ok (.iload_n 3, 1) := by decide +kernel
theorem dM_sees_61 : decode bM_sees 61 = .ok (.invokestatic 64, 3) := by decide +kernel
theorem dM_sees_64 : decode bM_sees 64 = .ok (.if_icmp .gt 47, 3) := by decide +kernel
theorem dM_sees_67 : decode bM_sees 67 = .ok (.iload 5, 2) := by decide +kernel
theorem dM_sees_69 : decode bM_sees 69 = .ok (.ifCond .eq 42, 3) := by decide +kernel
theorem dM_sees_72 : decode bM_sees 72 = .ok (.aload_n 0, 1) := by decide +kernel
theorem dM_sees_73 : decode bM_sees 73 = .ok (.iload 7, 2) := by decide +kernel
theorem dM_sees_75 : decode bM_sees 75 = .ok (.iload 6, 2) := by decide +kernel
theorem dM_sees_77 : decode bM_sees 77 = .ok (.invokevirtual 61, 3) := by decide +kernel
theorem dM_sees_80 : decode bM_sees 80 = .ok (.ifCond .ne 18, 3) := by decide +kernel
theorem dM_sees_83 : decode bM_sees 83 = .ok (.iload_n 1, 1) := by decide +kernel
theorem dM_sees_84 : decode bM_sees 84 = .ok (.iload_n 2, 1) := by decide +kernel
theorem dM_sees_85 : decode bM_sees 85 = .ok (.iload_n 3, 1) := by decide +kernel
theorem dM_sees_86 : decode bM_sees 86 = .ok (.iload 4, 2) := by decide +kernel
theorem dM_sees_88 : decode bM_sees 88 = .ok (.iload 7, 2) := by decide +kernel
theorem dM_sees_90 : decode bM_sees 90 = .ok (.iload 6, 2) := by decide +kernel
theorem dM_sees_92 : decode bM_sees 92 = .ok (.invokestatic 75, 3) := by decide +kernel
theorem dM_sees_95 : decode bM_sees 95 = .ok (.ifCond .ne 7, 3) := by decide +kernel
theorem dM_sees_98 : decode bM_sees 98 = .ok (.iconst 1, 1) := by decide +kernel
theorem dM_sees_99 : decode bM_sees 99 = .ok (.goto 4, 3) := by decide +kernel
theorem dM_sees_102 : decode bM_sees 102 = .ok (.iconst 0, 1) := by decide +kernel
theorem dM_sees_103 : decode bM_sees 103 = .ok (.istore 5, 2) := by decide +kernel
theorem dM_sees_105 : decode bM_sees 105 = .ok (.iinc 7 1, 3) := by decide +kernel
theorem dM_sees_108 : decode bM_sees 108 = .ok (.goto (-51), 3) := by decide +kernel
theorem dM_sees_111 : decode bM_sees 111 = .ok (.iinc 6 1, 3) := by decide +kernel
theorem dM_sees_114 : decode bM_sees 114 = .ok (.goto (-80), 3) := by decide +kernel
theorem dM_sees_117 : decode bM_sees 117 = .ok (.iload 5, 2) := by decide +kernel
theorem dM_sees_119 : decode bM_sees 119 = .ok (.ireturn, 1) := by decide +kernel
theorem dM_seen_0 : decode bM_seen 0 = .ok (.aload_n 0, 1) := by decide +kernel
theorem dM_seen_1 : decode bM_seen 1 = .ok (.aload_n 0, 1) := by decide +kernel
theorem dM_seen_2 : decode bM_seen 2 = .ok (.iload_n 1, 1) := by decide +kernel
theorem dM_seen_3 : decode bM_seen 3 = .ok (.iload_n 2, 1) := by decide +kernel
theorem dM_seen_4 : decode bM_seen 4 = .ok (.invokevirtual 57, 3) := by decide +kernel
theorem dM_seen_7 : decode bM_seen 7 = .ok (.ifCond .eq 17, 3) := by decide +kernel
theorem dM_seen_10 : decode bM_seen 10 = .ok (.aload_n 0, 1) := by decide +kernel
theorem dM_seen_11 : decode bM_seen 11 = .ok (.iload_n 3, 1) := by decide +kernel
theorem dM_seen_12 : decode bM_seen 12 = .ok (.iload 4, 2) := by decide +kernel
theorem dM_seen_14 : decode bM_seen 14 = .ok (.invokevirtual 57, 3) := by decide +kernel
theorem dM_seen_17 : decode bM_seen 17 = .ok (.ifCond .eq 7, 3) := by decide +kernel
theorem dM_seen_20 : decode bM_seen 20 = .ok (.iconst 0, 1) := by decide +kernel
theorem dM_seen_21 : decode bM_seen 21 = .ok (.goto 4, 3) := by decide +kernel
theorem dM_seen_24 : decode bM_seen 24 = .ok (.iconst 1, 1) := by decide +kernel
theorem dM_seen_25 : decode bM_seen 25 = .ok (.putfield 51, 3) := by decide +kernel
theorem dM_seen_28 : decode bM_seen 28 = .ok (.aload_n 0, 1) := by decide +kernel
theorem dM_seen_29 : decode bM_seen 29 = .ok (.getfield 51, 3) := by decide +kernel
theorem dM_seen_32 : decode bM_seen 32 = .ok (.ifCond .ne 19, 3) := by decide +kernel
theorem dM_seen_35 : decode bM_seen 35 = .ok (.aload_n 0, 1) := by decide +kernel
theorem dM_seen_36 : decode bM_seen 36 = .ok (.iload_n 1, 1) := by decide +kernel
theorem dM_seen_37 : decode bM_seen 37 = .ok (.iload_n 2, 1) := by decide +kernel
theorem dM_seen_38 : decode bM_seen 38 = .ok (.iload_n 3, 1) := by decide +kernel
theorem dM_seen_39 : decode bM_seen 39 = .ok (.iload 4, 2) := by decide +kernel
theorem dM_seen_41 : decode bM_seen 41 = .ok (.invokevirtual 79, 3) := by decide +kernel
theorem dM_seen_44 : decode bM_seen 44 = .ok (.ifCond .eq 7, 3) := by decide +kernel
theorem dM_seen_47 : decode bM_seen 47 = .ok (.iconst 1, 1) := by decide +kernel
theorem dM_seen_48 : decode bM_seen 48 = .ok (.goto 4, 3) := by decide +kernel
theorem dM_seen_51 : decode bM_seen 51 = .ok (.iconst 0, 1) := by decide +kernel
theorem dM_seen_52 : decode bM_seen 52 = .ok (.ireturn, 1) := by decide +kernel
theorem dM_isReached_0 : decode bM_isReached 0 = .ok (.iload_n 2, 1) := by decide +kernel
theorem dM_isReached_1 : decode bM_isReached 1 = .ok (.aload_n 0, 1) := by decide +kernel
theorem dM_isReached_2 : decode bM_isReached 2 = .ok (.getfield 17, 3) := by decide +kernel
theorem dM_isReached_5 : decode bM_isReached 5 = .ok (.iload_n 1, 1) := by decide +kernel
theorem dM_isReached_6 : decode bM_isReached 6 = .ok (.iaload, 1) := by decide +kernel
theorem dM_isReached_7 : decode bM_isReached 7 = .ok (.isub, 1) := by decide +kernel
theorem dM_isReached_8 : decode bM_isReached 8 = .ok (.istore 4, 2) := by decide +kernel
theorem dM_isReached_10 : decode bM_isReached 10 = .ok (.iload_n 3, 1) := by decide +kernel
theorem dM_isReached_11 : decode bM_isReached 11 = .ok (.aload_n 0, 1) := by decide +kernel
theorem dM_isReached_12 : decode bM_isReached 12 = .ok (.getfield 21, 3) := by decide +kernel
theorem dM_isReached_15 : decode bM_isReached 15 = .ok (.iload_n 1, 1) := by decide +kernel
theorem dM_isReached_16 : decode bM_isReached 16 = .ok (.iaload, 1) := by decide +kernel
theorem dM_isReached_17 : decode bM_isReached 17 = .ok (.isub, 1) := by decide +kernel
theorem dM_isReached_18 : decode bM_isReached 18 = .ok (.istore 5, 2) := by decide +kernel
theorem dM_isReached_20 : decode bM_isReached 20 = .ok (.iload 4, 2) := by decide +kernel
theorem dM_isReached_22 : decode bM_isReached 22 = .ok (.iload 4, 2) := by decide +kernel
theorem dM_isReached_24 : decode bM_isReached 24 = .ok (.imul, 1) := by decide +kernel
theorem dM_isReached_25 : decode bM_isReached 25 = .ok (.iload 5, 2) := by decide +kernel
theorem dM_isReached_27 : decode bM_isReached 27 = .ok (.iload 5, 2) := by decide +kernel
theorem dM_isReached_29 : decode bM_isReached 29 = .ok (.imul, 1) := by decide +kernel
theorem dM_isReached_30 : decode bM_isReached 30 = .ok (.iadd, 1) := by decide +kernel
theorem dM_isReached_31 : decode bM_isReached 31 = .ok (.aload_n 0, 1) := by decide +kernel
theorem dM_isReached_32 : decode bM_isReached 32 = .ok (.getfield 13, 3) := by decide +kernel
theorem dM_isReached_35 : decode bM_isReached 35 = .ok (.if_icmp .gt 28, 3) := by decide +kernel
theorem dM_isReached_38 : decode bM_isReached 38 = .ok (.aload_n 0, 1) := by decide +kernel
theorem dM_isReached_39 : decode bM_isReached 39 = .ok (.aload_n 0, 1) := by decide +kernel
theorem dM_isReached_40 : decode bM_isReached 40 = .ok (.getfield 17, 3) := by decide +kernel
theorem dM_isReached_43 : decode bM_isReached 43 = .ok (.iload_n 1, 1) := by decide +kernel
theorem dM_isReached_44 : decode bM_isReached 44 = .ok (.iaload, 1) := by decide +kernel
theorem dM_isReached_45 : decode bM_isReached 45 = .ok (.aload_n 0, 1) := by decide +kernel
theorem dM_isReached_46 : decode bM_isReached 46 = .ok (.getfield 21, 3) := by decide +kernel
theorem dM_isReached_49 : decode bM_isReached 49 = .ok (.iload_n 1, 1) := by decide +kernel
theorem dM_isReached_50 : decode bM_isReached 50 = .ok (.iaload, 1) := by decide +kernel
theorem dM_isReached_51 : decode bM_isReached 51 = .ok (.iload_n 2, 1) := by decide +kernel
theorem dM_isReached_52 : decode bM_isReached 52 = .ok (.iload_n 3, 1) := by decide +kernel
theorem dM_isReached_53 : decode bM_isReached 53 = .ok (.invokevirtual 79, 3) := by decide +kernel
theorem dM_isReached_56 : decode bM_isReached 56 = .ok (.ifCond .eq 7, 3) := by decide +kernel
theorem dM_isReached_59 : decode bM_isReached 59 = .ok (.iconst 1, 1) := by decide +kernel
theorem dM_isReached_60 : decode bM_isReached 60 = .ok (.goto 4, 3) := by decide +kernel
theorem dM_isReached_63 : decode bM_isReached 63 = .ok (.iconst 0, 1) := by decide +kernel
theorem dM_isReached_64 : decode bM_isReached 64 = .ok (.ireturn, 1) := by decide +kernel
theorem dM_findReached_0 : decode bM_findReached 0 = .ok (.iconst 0, 1) := by decide +kernel
theorem dM_findReached_1 : decode bM_findReached 1 = .ok (.istore_n 1, 1) := by decide +kernel
theorem dM_findReached_2 : decode bM_findReached 2 = .ok (.iload_n 1, 1) := by decide +kernel
theorem dM_findReached_3 : decode bM_findReached 3 = .ok (.aload_n 0, 1) := by decide +kernel
theorem dM_findReached_4 : decode bM_findReached 4 = .ok (.getfield 48, 3) := by decide +kernel
theorem dM_findReached_7 : decode bM_findReached 7 = .ok (.if_icmp .ge 79, 3) := by decide +kernel
theorem dM_findReached_10 : decode bM_findReached 10 = .ok (.iconst 0, 1) := by decide +kernel
theorem dM_findReached_11 : decode bM_findReached 11 = .ok (.istore_n 2, 1) := by decide +kernel
theorem dM_findReached_12 : decode bM_findReached 12 = .ok (.iload_n 2, 1) := by decide +kernel
theorem dM_findReached_13 : decode bM_findReached 13 = .ok (.aload_n 0, 1) := by decide +kernel
theorem dM_findReached_14 : decode bM_findReached 14 = .ok (.getfield 45, 3) := by decide +kernel
theorem dM_findReached_17 : decode bM_findReached 17 = .ok (.if_icmp .ge 63, 3) := by decide +kernel
theorem dM_findReached_20 : decode bM_findReached 20 = .ok (.iconst 0, 1) := by decide +kernel
theorem dM_findReached_21 : decode bM_findReached 21 = .ok (.istore_n 3, 1) := by decide +kernel
theorem dM_findReached_22 : decode bM_findReached 22 = .ok (.iconst 0, 1) := by decide +kernel
theorem dM_findReached_23 : decode bM_findReached 23 = .ok (.istore 4, 2) := by decide +kernel
theorem dM_findReached_25 : decode bM_findReached 25 = .ok (.iload 4, 2) := by decide +kernel
theorem dM_findReached_27 : decode bM_findReached 27 = .ok (.aload_n 0, 1) := by decide +kernel
theorem dM_findReached_28 : decode bM_findReached 28 = .ok (.getfield 54, 3) := by decide +kernel
theorem dM_findReached_31 : decode bM_findReached 31 = .ok (.if_icmp .ge 31, 3) := by decide +kernel
theorem dM_findReached_34 : decode bM_findReached 34 = .ok (.aload_n 0, 1) := by decide +kernel
theorem dM_findReached_35 : decode bM_findReached 35 = .ok (.iload 4, 2) := by decide +kernel
theorem dM_findReached_37 : decode bM_findReached 37 = .ok (.iload_n 2, 1) := by decide +kernel
theorem dM_findReached_38 : decode bM_findReached 38 = .ok (.iload_n 1, 1) := by decide +kernel
theorem dM_findReached_39 : decode bM_findReached 39 = .ok (.invokevirtual 83, 3) := by decide +kernel
theorem dM_findReached_42 : decode bM_findReached 42 = .ok (.ifCond .eq 12, 3) := by decide +kernel
theorem dM_findReached_45 : decode bM_findReached 45 = .ok (.iload_n 3, 1) := by decide +kernel
theorem dM_findReached_46 : decode bM_findReached 46 = .ok (.iconst 1, 1) := by decide +kernel
theorem dM_findReached_47 : decode bM_findReached 47 = .ok (.iload 4, 2) := by decide +kernel
theorem dM_findReached_49 : decode bM_findReached 49 = .ok (.ishl, 1) := by decide +kernel
theorem dM_findReached_50 : decode bM_findReached 50 = .ok (.ior, 1) := by decide +kernel
theorem dM_findReached_51 : decode bM_findReached 51 = .ok (.goto 4, 3) := by decide +kernel
theorem dM_findReached_54 : decode bM_findReached 54 = .ok (.iload_n 3, 1) := by decide +kernel
theorem dM_findReached_55 : decode bM_findReached 55 = .ok (.istore_n 3, 1) := by decide +kernel
theorem dM_findReached_56 : decode bM_findReached 56 = .ok (.iinc 4 1, 3) := by decide +kernel
theorem dM_findReached_59 : decode bM_findReached 59 = .ok (.goto (-34), 3) := by decide +kernel
theorem dM_findReached_62 : decode bM_findReached 62 = .ok (.aload_n 0, 1) := by decide +kernel
theorem dM_findReached_63 : decode bM_findReached 63 = .ok (.getfield 27, 3) := by decide +kernel
theorem dM_findReached_66 : decode bM_findReached 66 = .ok (.bipush 16, 2) := by decide +kernel
theorem dM_findReached_68 : decode bM_findReached 68 = .ok (.iload_n 1, 1) := by decide +kernel
theorem dM_findReached_69 : decode bM_findReached 69 = .ok (.imul, 1) := by decide +kernel
theorem dM_findReached_70 : decode bM_findReached 70 = .ok (.iload_n 2, 1) := by decide +kernel
theorem dM_findReached_71 : decode bM_findReached 71 = .ok (.iadd, 1) := by decide +kernel
theorem dM_findReached_72 : decode bM_findReached 72 = .ok (.iload_n 3, 1) := by decide +kernel
theorem dM_findReached_73 : decode bM_findReached 73 = .ok (.iastore, 1) := by decide +kernel
theorem dM_findReached_74 : decode bM_findReached 74 = .ok (.iinc 2 1, 3) := by decide +kernel
theorem dM_findReached_77 : decode bM_findReached 77 = .ok (.goto (-65), 3) := by decide +kernel
theorem dM_findReached_80 : decode bM_findReached 80 = .ok (.iinc 1 1, 3) := by decide +kernel
theorem dM_findReached_83 : decode bM_findReached 83 = .ok (.goto (-81), 3) := by decide +kernel
theorem dM_findReached_86 : decode bM_findReached 86 = .ok (.return_, 1) := by decide +kernel
theorem dM_reached_0 : decode bM_reached 0 = .ok (.aload_n 0, 1) := by decide +kernel
theorem dM_reached_1 : decode bM_reached 1 = .ok (.aload_n 0, 1) := by decide +kernel
theorem dM_reached_2 : decode bM_reached 2 = .ok (.iload_n 1, 1) := by decide +kernel
theorem dM_reached_3 : decode bM_reached 3 = .ok (.invokevirtual 87, 3) := by decide +kernel
theorem dM_reached_6 : decode bM_reached 6 = .ok (.ifCond .eq 7, 3) := by decide +kernel
theorem dM_reached_9 : decode bM_reached 9 = .ok (.iconst 0, 1) := by decide +kernel
theorem dM_reached_10 : decode bM_reached 10 = .ok (.goto 4, 3) := by decide +kernel
theorem dM_reached_13 : decode bM_reached 13 = .ok (.iconst 1, 1) := by decide +kernel
theorem dM_reached_14 : decode bM_reached 14 = .ok (.putfield 51, 3) := by decide +kernel
theorem dM_reached_17 : decode bM_reached 17 = .ok (.iconst 0, 1) := by decide +kernel
theorem dM_reached_18 : decode bM_reached 18 = .ok (.istore_n 2, 1) := by decide +kernel
theorem dM_reached_19 : decode bM_reached 19 = .ok (.iconst 0, 1) := by decide +kernel
theorem dM_reached_20 : decode bM_reached 20 = .ok (.istore_n 3, 1) := by decide +kernel
theorem dM_reached_21 : decode bM_reached 21 = .ok (.iload_n 3, 1) := by decide +kernel
theorem dM_reached_22 : decode bM_reached 22 = .ok (.aload_n 0, 1) := by decide +kernel
theorem dM_reached_23 : decode bM_reached 23 = .ok (.getfield 48, 3) := by decide +kernel
theorem dM_reached_26 : decode bM_reached 26 = .ok (.if_icmp .ge 53, 3) := by decide +kernel
theorem dM_reached_29 : decode bM_reached 29 = .ok (.aload_n 0, 1) := by decide +kernel
theorem dM_reached_30 : decode bM_reached 30 = .ok (.getfield 51, 3) := by decide +kernel
theorem dM_reached_33 : decode bM_reached 33 = .ok (.ifCond .ne 46, 3) := by decide +kernel
theorem dM_reached_36 : decode bM_reached 36 = .ok (.iconst 0, 1) := by decide +kernel
theorem dM_reached_37 : decode bM_reached 37 = .ok (.istore 4, 2) := by decide +kernel
theorem dM_reached_39 : decode bM_reached 39 = .ok (.iload 4, 2) := by decide +kernel
theorem dM_reached_41 : decode bM_reached 41 = .ok (.aload_n 0, 1) := by decide +kernel
theorem dM_reached_42 : decode bM_reached 42 = .ok (.getfield 45, 3) := by decide +kernel
theorem dM_reached_45 : decode bM_reached 45 = .ok (.if_icmp .ge 28, 3) := by decide +kernel
theorem dM_reached_48 : decode bM_reached 48 = .ok (.iload_n 2, 1) := by decide +kernel
theorem dM_reached_49 : decode bM_reached 49 = .ok (.aload_n 0, 1) := by decide +kernel
theorem dM_reached_50 : decode bM_reached 50 = .ok (.iload_n 1, 1) := by decide +kernel
theorem dM_reached_51 : decode bM_reached 51 = .ok (.iload 4, 2) := by decide +kernel
theorem dM_reached_53 : decode bM_reached 53 = .ok (.iload_n 3, 1) := by decide +kernel
theorem dM_reached_54 : decode bM_reached 54 = .ok (.invokevirtual 83, 3) := by decide +kernel
theorem dM_reached_57 : decode bM_reached 57 = .ok (.ifCond .eq 7, 3) := by decide +kernel
theorem dM_reached_60 : decode bM_reached 60 = .ok (.iconst 1, 1) := by decide +kernel
theorem dM_reached_61 : decode bM_reached 61 = .ok (.goto 4, 3) := by decide +kernel
theorem dM_reached_64 : decode bM_reached 64 = .ok (.iconst 0, 1) := by decide +kernel
theorem dM_reached_65 : decode bM_reached 65 = .ok (.iadd, 1) := by decide +kernel
theorem dM_reached_66 : decode bM_reached 66 = .ok (.istore_n 2, 1) := by decide +kernel
theorem dM_reached_67 : decode bM_reached 67 = .ok (.iinc 4 1, 3) := by decide +kernel
theorem dM_reached_70 : decode bM_reached 70 = .ok (.goto (-31), 3) := by decide +kernel
theorem dM_reached_73 : decode bM_reached 73 = .ok (.iinc 3 1, 3) := by decide +kernel
theorem dM_reached_76 : decode bM_reached 76 = .ok (.goto (-55), 3) := by decide +kernel
theorem dM_reached_79 : decode bM_reached 79 = .ok (.iload_n 2, 1) := by decide +kernel
theorem dM_reached_80 : decode bM_reached 80 = .ok (.ireturn, 1) := by decide +kernel
theorem dM_dryCells_0 : decode bM_dryCells 0 = .ok (.iconst 0, 1) := by decide +kernel
theorem dM_dryCells_1 : decode bM_dryCells 1 = .ok (.istore_n 2, 1) := by decide +kernel
theorem dM_dryCells_2 : decode bM_dryCells 2 = .ok (.iconst 0, 1) := by decide +kernel
theorem dM_dryCells_3 : decode bM_dryCells 3 = .ok (.istore_n 3, 1) := by decide +kernel
theorem dM_dryCells_4 : decode bM_dryCells 4 = .ok (.iload_n 3, 1) := by decide +kernel
theorem dM_dryCells_5 : decode bM_dryCells 5 = .ok (.aload_n 0, 1) := by decide +kernel
theorem dM_dryCells_6 : decode bM_dryCells 6 = .ok (.getfield 48, 3) := by decide +kernel
theorem dM_dryCells_9 : decode bM_dryCells 9 = .ok (.if_icmp .ge 62, 3) := by decide +kernel
theorem dM_dryCells_12 : decode bM_dryCells 12 = .ok (.iconst 0, 1) := by decide +kernel
theorem dM_dryCells_13 : decode bM_dryCells 13 = .ok (.istore 4, 2) := by decide +kernel
theorem dM_dryCells_15 : decode bM_dryCells 15 = .ok (.iload 4, 2) := by decide +kernel
theorem dM_dryCells_17 : decode bM_dryCells 17 = .ok (.aload_n 0, 1) := by decide +kernel
theorem dM_dryCells_18 : decode bM_dryCells 18 = .ok (.getfield 45, 3) := by decide +kernel
theorem dM_dryCells_21 : decode bM_dryCells 21 = .ok (.if_icmp .ge 44, 3) := by decide +kernel
theorem dM_dryCells_24 : decode bM_dryCells 24 = .ok (.iload_n 2, 1) := by decide +kernel
theorem dM_dryCells_25 : decode bM_dryCells 25 = .ok (.aload_n 0, 1) := by decide +kernel
theorem dM_dryCells_26 : decode bM_dryCells 26 = .ok (.iload 4, 2) := by decide +kernel
theorem dM_dryCells_28 : decode bM_dryCells 28 = .ok (.iload_n 3, 1) := by decide +kernel
theorem dM_dryCells_29 : decode bM_dryCells 29 = .ok (.invokevirtual 61, 3) := by decide +kernel
theorem dM_dryCells_32 : decode bM_dryCells 32 = .ok (.ifCond .eq 24, 3) := by decide +kernel
theorem dM_dryCells_35 : decode bM_dryCells 35 = .ok (.aload_n 0, 1) := by decide +kernel
theorem dM_dryCells_36 : decode bM_dryCells 36 = .ok (.getfield 27, 3) := by decide +kernel
theorem dM_dryCells_39 : decode bM_dryCells 39 = .ok (.bipush 16, 2) := by decide +kernel
theorem dM_dryCells_41 : decode bM_dryCells 41 = .ok (.iload_n 3, 1) := by decide +kernel
theorem dM_dryCells_42 : decode bM_dryCells 42 = .ok (.imul, 1) := by decide +kernel
theorem dM_dryCells_43 : decode bM_dryCells 43 = .ok (.iload 4, 2) := by decide +kernel
theorem dM_dryCells_45 : decode bM_dryCells 45 = .ok (.iadd, 1) := by decide +kernel
theorem dM_dryCells_46 : decode bM_dryCells 46 = .ok (.iaload, 1) := by decide +kernel
theorem dM_dryCells_47 : decode bM_dryCells 47 = .ok (.iload_n 1, 1) := by decide +kernel
theorem dM_dryCells_48 : decode bM_dryCells 48 = .ok (.iand, 1) := by decide +kernel
theorem dM_dryCells_49 : decode bM_dryCells 49 = .ok (.ifCond .ne 7, 3) := by decide +kernel
theorem dM_dryCells_52 : decode bM_dryCells 52 = .ok (.iconst 1, 1) := by decide +kernel
theorem dM_dryCells_53 : decode bM_dryCells 53 = .ok (.goto 4, 3) := by decide +kernel
theorem dM_dryCells_56 : decode bM_dryCells 56 = .ok (.iconst 0, 1) := by decide +kernel
theorem dM_dryCells_57 : decode bM_dryCells 57 = .ok (.iadd, 1) := by decide +kernel
theorem dM_dryCells_58 : decode bM_dryCells 58 = .ok (.istore_n 2, 1) := by decide +kernel
theorem dM_dryCells_59 : decode bM_dryCells 59 = .ok (.iinc 4 1, 3) := by decide +kernel
theorem dM_dryCells_62 : decode bM_dryCells 62 = .ok (.goto (-47), 3) := by decide +kernel
theorem dM_dryCells_65 : decode bM_dryCells 65 = .ok (.iinc 3 1, 3) := by decide +kernel
theorem dM_dryCells_68 : decode bM_dryCells 68 = .ok (.goto (-64), 3) := by decide +kernel
theorem dM_dryCells_71 : decode bM_dryCells 71 = .ok (.iload_n 2, 1) := by decide +kernel
theorem dM_dryCells_72 : decode bM_dryCells 72 = .ok (.ireturn, 1) := by decide +kernel
theorem dM_left_0 : decode bM_left 0 = .ok (.aload_n 0, 1) := by decide +kernel
theorem dM_left_1 : decode bM_left 1 = .ok (.aload_n 0, 1) := by decide +kernel
theorem dM_left_2 : decode bM_left 2 = .ok (.iload_n 1, 1) := by decide +kernel
theorem dM_left_3 : decode bM_left 3 = .ok (.invokevirtual 91, 3) := by decide +kernel
theorem dM_left_6 : decode bM_left 6 = .ok (.ifCond .eq 7, 3) := by decide +kernel
theorem dM_left_9 : decode bM_left 9 = .ok (.iconst 0, 1) := by decide +kernel
theorem dM_left_10 : decode bM_left 10 = .ok (.goto 4, 3) := by decide +kernel
theorem dM_left_13 : decode bM_left 13 = .ok (.iconst 1, 1) := by decide +kernel
theorem dM_left_14 : decode bM_left 14 = .ok (.putfield 51, 3) := by decide +kernel
theorem dM_left_17 : decode bM_left 17 = .ok (.aload_n 0, 1) := by decide +kernel
theorem dM_left_18 : decode bM_left 18 = .ok (.getfield 51, 3) := by decide +kernel
theorem dM_left_21 : decode bM_left 21 = .ok (.ifCond .le 5, 3) := by decide +kernel
theorem dM_left_24 : decode bM_left 24 = .ok (.iconst 0, 1) := by decide +kernel
theorem dM_left_25 : decode bM_left 25 = .ok (.ireturn, 1) := by decide +kernel
theorem dM_left_26 : decode bM_left 26 = .ok (.aload_n 0, 1) := by decide +kernel
theorem dM_left_27 : decode bM_left 27 = .ok (.invokevirtual 94, 3) := by decide +kernel
theorem dM_left_30 : decode bM_left 30 = .ok (.aload_n 0, 1) := by decide +kernel
theorem dM_left_31 : decode bM_left 31 = .ok (.iload_n 1, 1) := by decide +kernel
theorem dM_left_32 : decode bM_left 32 = .ok (.invokevirtual 97, 3) := by decide +kernel
theorem dM_left_35 : decode bM_left 35 = .ok (.ireturn, 1) := by decide +kernel
theorem dM_dry_0 : decode bM_dry 0 = .ok (.aload_n 0, 1) := by decide +kernel
theorem dM_dry_1 : decode bM_dry 1 = .ok (.aload_n 0, 1) := by decide +kernel
theorem dM_dry_2 : decode bM_dry 2 = .ok (.iload_n 1, 1) := by decide +kernel
theorem dM_dry_3 : decode bM_dry 3 = .ok (.invokevirtual 91, 3) := by decide +kernel
theorem dM_dry_6 : decode bM_dry 6 = .ok (.ifCond .eq 11, 3) := by decide +kernel
theorem dM_dry_9 : decode bM_dry 9 = .ok (.iload_n 2, 1) := by decide +kernel
theorem dM_dry_10 : decode bM_dry 10 = .ok (.ifCond .lt 7, 3) := by decide +kernel
theorem dM_dry_13 : decode bM_dry 13 = .ok (.iconst 0, 1) := by decide +kernel
theorem dM_dry_14 : decode bM_dry 14 = .ok (.goto 4, 3) := by decide +kernel
theorem dM_dry_17 : decode bM_dry 17 = .ok (.iconst 1, 1) := by decide +kernel
theorem dM_dry_18 : decode bM_dry 18 = .ok (.putfield 51, 3) := by decide +kernel
theorem dM_dry_21 : decode bM_dry 21 = .ok (.aload_n 0, 1) := by decide +kernel
theorem dM_dry_22 : decode bM_dry 22 = .ok (.getfield 51, 3) := by decide +kernel
theorem dM_dry_25 : decode bM_dry 25 = .ok (.ifCond .le 5, 3) := by decide +kernel
theorem dM_dry_28 : decode bM_dry 28 = .ok (.iconst 0, 1) := by decide +kernel
theorem dM_dry_29 : decode bM_dry 29 = .ok (.ireturn, 1) := by decide +kernel
theorem dM_dry_30 : decode bM_dry 30 = .ok (.aload_n 0, 1) := by decide +kernel
theorem dM_dry_31 : decode bM_dry 31 = .ok (.invokevirtual 94, 3) := by decide +kernel
theorem dM_dry_34 : decode bM_dry 34 = .ok (.iload_n 2, 1) := by decide +kernel
theorem dM_dry_35 : decode bM_dry 35 = .ok (.istore_n 3, 1) := by decide +kernel
theorem dM_dry_36 : decode bM_dry 36 = .ok (.iconst 0, 1) := by decide +kernel
theorem dM_dry_37 : decode bM_dry 37 = .ok (.istore 4, 2) := by decide +kernel
theorem dM_dry_39 : decode bM_dry 39 = .ok (.iload 4, 2) := by decide +kernel
theorem dM_dry_41 : decode bM_dry 41 = .ok (.aload_n 0, 1) := by decide +kernel
theorem dM_dry_42 : decode bM_dry 42 = .ok (.getfield 48, 3) := by decide +kernel
theorem dM_dry_45 : decode bM_dry 45 = .ok (.if_icmp .ge 72, 3) := by decide +kernel
theorem dM_dry_48 : decode bM_dry 48 = .ok (.iconst 0, 1) := by decide +kernel
theorem dM_dry_49 : decode bM_dry 49 = .ok (.istore 5, 2) := by decide +kernel
theorem dM_dry_51 : decode bM_dry 51 = .ok (.iload 5, 2) := by decide +kernel
theorem dM_dry_53 : decode bM_dry 53 = .ok (.aload_n 0, 1) := by decide +kernel
theorem dM_dry_54 : decode bM_dry 54 = .ok (.getfield 45, 3) := by decide +kernel
theorem dM_dry_57 : decode bM_dry 57 = .ok (.if_icmp .ge 54, 3) := by decide +kernel
theorem dM_dry_60 : decode bM_dry 60 = .ok (.aload_n 0, 1) := by decide +kernel
theorem dM_dry_61 : decode bM_dry 61 = .ok (.iload 5, 2) := by decide +kernel
theorem dM_dry_63 : decode bM_dry 63 = .ok (.iload 4, 2) := by decide +kernel
theorem dM_dry_65 : decode bM_dry 65 = .ok (.invokevirtual 61, 3) := by decide +kernel
theorem dM_dry_68 : decode bM_dry 68 = .ok (.ifCond .eq 37, 3) := by decide +kernel
theorem dM_dry_71 : decode bM_dry 71 = .ok (.aload_n 0, 1) := by decide +kernel
theorem dM_dry_72 : decode bM_dry 72 = .ok (.getfield 27, 3) := by decide +kernel
theorem dM_dry_75 : decode bM_dry 75 = .ok (.bipush 16, 2) := by decide +kernel
theorem dM_dry_77 : decode bM_dry 77 = .ok (.iload 4, 2) := by decide +kernel
theorem dM_dry_79 : decode bM_dry 79 = .ok (.imul, 1) := by decide +kernel
theorem dM_dry_80 : decode bM_dry 80 = .ok (.iload 5, 2) := by decide +kernel
theorem dM_dry_82 : decode bM_dry 82 = .ok (.iadd, 1) := by decide +kernel
theorem dM_dry_83 : decode bM_dry 83 = .ok (.iaload, 1) := by decide +kernel
theorem dM_dry_84 : decode bM_dry 84 = .ok (.iload_n 1, 1) := by decide +kernel
theorem dM_dry_85 : decode bM_dry 85 = .ok (.iand, 1) := by decide +kernel
theorem dM_dry_86 : decode bM_dry 86 = .ok (.ifCond .ne 19, 3) := by decide +kernel
theorem dM_dry_89 : decode bM_dry 89 = .ok (.iload_n 3, 1) := by decide +kernel
theorem dM_dry_90 : decode bM_dry 90 = .ok (.ifCond .ne 12, 3) := by decide +kernel
theorem dM_dry_93 : decode bM_dry 93 = .ok (.bipush 100, 2) := by decide +kernel
theorem dM_dry_95 : decode bM_dry 95 = .ok (.iload 4, 2) := by decide +kernel
theorem dM_dry_97 : decode bM_dry 97 = .ok (.imul, 1) := by decide +kernel
theorem dM_dry_98 : decode bM_dry 98 = .ok (.iload 5, 2) := by decide +kernel
theorem dM_dry_100 : decode bM_dry 100 = .ok (.iadd, 1) := by decide +kernel
theorem dM_dry_101 : decode bM_dry 101 = .ok (.ireturn, 1) := by decide +kernel
theorem dM_dry_102 : decode bM_dry 102 = .ok (.iinc 3 (-1), 3) := by decide +kernel
theorem dM_dry_105 : decode bM_dry 105 = .ok (.iinc 5 1, 3) := by decide +kernel
theorem dM_dry_108 : decode bM_dry 108 = .ok (.goto (-57), 3) := by decide +kernel
theorem dM_dry_111 : decode bM_dry 111 = .ok (.iinc 4 1, 3) := by decide +kernel
theorem dM_dry_114 : decode bM_dry 114 = .ok (.goto (-75), 3) := by decide +kernel
theorem dM_dry_117 : decode bM_dry 117 = .ok (.iconst (-1), 1) := by decide +kernel
theorem dM_dry_118 : decode bM_dry 118 = .ok (.ireturn, 1) := by decide +kernel
theorem dM_ones_0 : decode bM_ones 0 = .ok (.iconst 0, 1) := by decide +kernel
theorem dM_ones_1 : decode bM_ones 1 = .ok (.istore_n 1, 1) := by decide +kernel
theorem dM_ones_2 : decode bM_ones 2 = .ok (.iload_n 0, 1) := by decide +kernel
theorem dM_ones_3 : decode bM_ones 3 = .ok (.istore_n 2, 1) := by decide +kernel
theorem dM_ones_4 : decode bM_ones 4 = .ok (.iload_n 2, 1) := by decide +kernel
theorem dM_ones_5 : decode bM_ones 5 = .ok (.ifCond .eq 15, 3) := by decide +kernel
theorem dM_ones_8 : decode bM_ones 8 = .ok (.iinc 1 1, 3) := by decide +kernel
theorem dM_ones_11 : decode bM_ones 11 = .ok (.iload_n 2, 1) := by decide +kernel
theorem dM_ones_12 : decode bM_ones 12 = .ok (.iload_n 2, 1) := by decide +kernel
theorem dM_ones_13 : decode bM_ones 13 = .ok (.iconst 1, 1) := by decide +kernel
theorem dM_ones_14 : decode bM_ones 14 = .ok (.isub, 1) := by decide +kernel
theorem dM_ones_15 : decode bM_ones 15 = .ok (.iand, 1) := by decide +kernel
theorem dM_ones_16 : decode bM_ones 16 = .ok (.istore_n 2, 1) := by decide +kernel
theorem dM_ones_17 : decode bM_ones 17 = .ok (.goto (-13), 3) := by decide +kernel
theorem dM_ones_20 : decode bM_ones 20 = .ok (.iload_n 1, 1) := by decide +kernel
theorem dM_ones_21 : decode bM_ones 21 = .ok (.ireturn, 1) := by decide +kernel
theorem dM_best_0 : decode bM_best 0 = .ok (.aload_n 0, 1) := by decide +kernel
theorem dM_best_1 : decode bM_best 1 = .ok (.iconst 0, 1) := by decide +kernel
theorem dM_best_2 : decode bM_best 2 = .ok (.putfield 51, 3) := by decide +kernel
theorem dM_best_5 : decode bM_best 5 = .ok (.aload_n 0, 1) := by decide +kernel
theorem dM_best_6 : decode bM_best 6 = .ok (.invokevirtual 94, 3) := by decide +kernel
theorem dM_best_9 : decode bM_best 9 = .ok (.iconst (-1), 1) := by decide +kernel
theorem dM_best_10 : decode bM_best 10 = .ok (.istore_n 1, 1) := by decide +kernel
theorem dM_best_11 : decode bM_best 11 = .ok (.iconst 0, 1) := by decide +kernel
theorem dM_best_12 : decode bM_best 12 = .ok (.istore_n 2, 1) := by decide +kernel
theorem dM_best_13 : decode bM_best 13 = .ok (.iload_n 2, 1) := by decide +kernel
theorem dM_best_14 : decode bM_best 14 = .ok (.iconst 1, 1) := by decide +kernel
theorem dM_best_15 : decode bM_best 15 = .ok (.aload_n 0, 1) := by decide +kernel
theorem dM_best_16 : decode bM_best 16 = .ok (.getfield 54, 3) := by decide +kernel
theorem dM_best_19 : decode bM_best 19 = .ok (.ishl, 1) := by decide +kernel
theorem dM_best_20 : decode bM_best 20 = .ok (.if_icmp .ge 49, 3) := by decide +kernel
theorem dM_best_23 : decode bM_best 23 = .ok (.iload_n 1, 1) := by decide +kernel
theorem dM_best_24 : decode bM_best 24 = .ok (.iconst (-1), 1) := by decide +kernel
theorem dM_best_25 : decode bM_best 25 = .ok (.if_icmp .eq 14, 3) := by decide +kernel
theorem dM_best_28 : decode bM_best 28 = .ok (.iload_n 2, 1) := by decide +kernel
theorem dM_best_29 : decode bM_best 29 = .ok (.invokestatic 101, 3) := by decide +kernel
theorem dM_best_32 : decode bM_best 32 = .ok (.iload_n 1, 1) := by decide +kernel
theorem dM_best_33 : decode bM_best 33 = .ok (.invokestatic 101, 3) := by decide +kernel
theorem dM_best_36 : decode bM_best 36 = .ok (.if_icmp .ge 7, 3) := by decide +kernel
theorem dM_best_39 : decode bM_best 39 = .ok (.iconst 1, 1) := by decide +kernel
theorem dM_best_40 : decode bM_best 40 = .ok (.goto 4, 3) := by decide +kernel
theorem dM_best_43 : decode bM_best 43 = .ok (.iconst 0, 1) := by decide +kernel
theorem dM_best_44 : decode bM_best 44 = .ok (.istore_n 3, 1) := by decide +kernel
theorem dM_best_45 : decode bM_best 45 = .ok (.iload_n 3, 1) := by decide +kernel
theorem dM_best_46 : decode bM_best 46 = .ok (.ifCond .eq 15, 3) := by decide +kernel
theorem dM_best_49 : decode bM_best 49 = .ok (.aload_n 0, 1) := by decide +kernel
theorem dM_best_50 : decode bM_best 50 = .ok (.iload_n 2, 1) := by decide +kernel
theorem dM_best_51 : decode bM_best 51 = .ok (.invokevirtual 97, 3) := by decide +kernel
theorem dM_best_54 : decode bM_best 54 = .ok (.ifCond .ne 7, 3) := by decide +kernel
theorem dM_best_57 : decode bM_best 57 = .ok (.iload_n 2, 1) := by decide +kernel
theorem dM_best_58 : decode bM_best 58 = .ok (.goto 4, 3) := by decide +kernel
theorem dM_best_61 : decode bM_best 61 = .ok (.iload_n 1, 1) := by decide +kernel
theorem dM_best_62 : decode bM_best 62 = .ok (.istore_n 1, 1) := by decide +kernel
theorem dM_best_63 : decode bM_best 63 = .ok (.iinc 2 1, 3) := by decide +kernel
theorem dM_best_66 : decode bM_best 66 = .ok (.goto (-53), 3) := by decide +kernel
theorem dM_best_69 : decode bM_best 69 = .ok (.iload_n 1, 1) := by decide +kernel
theorem dM_best_70 : decode bM_best 70 = .ok (.ireturn, 1) := by decide +kernel
theorem dM_size_0 : decode bM_size 0 = .ok (.aload_n 0, 1) := by decide +kernel
theorem dM_size_1 : decode bM_size 1 = .ok (.iload_n 1, 1) := by decide +kernel
theorem dM_size_2 : decode bM_size 2 = .ok (.iconst 1, 1) := by decide +kernel
theorem dM_size_3 : decode bM_size 3 = .ok (.if_icmp .lt 20, 3) := by decide +kernel
theorem dM_size_6 : decode bM_size 6 = .ok (.iload_n 1, 1) := by decide +kernel
theorem dM_size_7 : decode bM_size 7 = .ok (.bipush 12, 2) := by decide +kernel
theorem dM_size_9 : decode bM_size 9 = .ok (.if_icmp .gt 14, 3) := by decide +kernel
theorem dM_size_12 : decode bM_size 12 = .ok (.iload_n 2, 1) := by decide +kernel
theorem dM_size_13 : decode bM_size 13 = .ok (.ifCond .lt 10, 3) := by decide +kernel
theorem dM_size_16 : decode bM_size 16 = .ok (.iload_n 2, 1) := by decide +kernel
theorem dM_size_17 : decode bM_size 17 = .ok (.sipush 1000, 3) := by decide +kernel
theorem dM_size_20 : decode bM_size 20 = .ok (.if_icmp .le 7, 3) := by decide +kernel
theorem dM_size_23 : decode bM_size 23 = .ok (.iconst 1, 1) := by decide +kernel
theorem dM_size_24 : decode bM_size 24 = .ok (.goto 4, 3) := by decide +kernel
theorem dM_size_27 : decode bM_size 27 = .ok (.iconst 0, 1) := by decide +kernel
theorem dM_size_28 : decode bM_size 28 = .ok (.putfield 51, 3) := by decide +kernel
theorem dM_size_31 : decode bM_size 31 = .ok (.aload_n 0, 1) := by decide +kernel
theorem dM_size_32 : decode bM_size 32 = .ok (.getfield 51, 3) := by decide +kernel
theorem dM_size_35 : decode bM_size 35 = .ok (.ifCond .le 5, 3) := by decide +kernel
theorem dM_size_38 : decode bM_size 38 = .ok (.iconst 0, 1) := by decide +kernel
theorem dM_size_39 : decode bM_size 39 = .ok (.ireturn, 1) := by decide +kernel
theorem dM_size_40 : decode bM_size 40 = .ok (.aload_n 0, 1) := by decide +kernel
theorem dM_size_41 : decode bM_size 41 = .ok (.getfield 24, 3) := by decide +kernel
theorem dM_size_44 : decode bM_size 44 = .ok (.iload_n 1, 1) := by decide +kernel
theorem dM_size_45 : decode bM_size 45 = .ok (.iload_n 2, 1) := by decide +kernel
theorem dM_size_46 : decode bM_size 46 = .ok (.iastore, 1) := by decide +kernel
theorem dM_size_47 : decode bM_size 47 = .ok (.iconst 0, 1) := by decide +kernel
theorem dM_size_48 : decode bM_size 48 = .ok (.istore_n 3, 1) := by decide +kernel
theorem dM_size_49 : decode bM_size 49 = .ok (.iconst 1, 1) := by decide +kernel
theorem dM_size_50 : decode bM_size 50 = .ok (.istore 4, 2) := by decide +kernel
theorem dM_size_52 : decode bM_size 52 = .ok (.iload 4, 2) := by decide +kernel
theorem dM_size_54 : decode bM_size 54 = .ok (.bipush 13, 2) := by decide +kernel
theorem dM_size_56 : decode bM_size 56 = .ok (.if_icmp .ge 27, 3) := by decide +kernel
theorem dM_size_59 : decode bM_size 59 = .ok (.iload_n 3, 1) := by decide +kernel
theorem dM_size_60 : decode bM_size 60 = .ok (.aload_n 0, 1) := by decide +kernel
theorem dM_size_61 : decode bM_size 61 = .ok (.getfield 24, 3) := by decide +kernel
theorem dM_size_64 : decode bM_size 64 = .ok (.iload 4, 2) := by decide +kernel
theorem dM_size_66 : decode bM_size 66 = .ok (.iaload, 1) := by decide +kernel
theorem dM_size_67 : decode bM_size 67 = .ok (.ifCond .lt 7, 3) := by decide +kernel
theorem dM_size_70 : decode bM_size 70 = .ok (.iconst 1, 1) := by decide +kernel
theorem dM_size_71 : decode bM_size 71 = .ok (.goto 4, 3) := by decide +kernel
theorem dM_size_74 : decode bM_size 74 = .ok (.iconst 0, 1) := by decide +kernel
theorem dM_size_75 : decode bM_size 75 = .ok (.iadd, 1) := by decide +kernel
theorem dM_size_76 : decode bM_size 76 = .ok (.istore_n 3, 1) := by decide +kernel
theorem dM_size_77 : decode bM_size 77 = .ok (.iinc 4 1, 3) := by decide +kernel
theorem dM_size_80 : decode bM_size 80 = .ok (.goto (-28), 3) := by decide +kernel
theorem dM_size_83 : decode bM_size 83 = .ok (.iload_n 3, 1) := by decide +kernel
theorem dM_size_84 : decode bM_size 84 = .ok (.ireturn, 1) := by decide +kernel
theorem dM_plain_0 : decode bM_plain 0 = .ok (.iload_n 0, 1) := by decide +kernel
theorem dM_plain_1 : decode bM_plain 1 = .ok (.ifCond .ge 8, 3) := by decide +kernel
theorem dM_plain_4 : decode bM_plain 4 = .ok (.iload_n 0, 1) := by decide +kernel
theorem dM_plain_5 : decode bM_plain 5 = .ok (.ineg, 1) := by decide +kernel
theorem dM_plain_6 : decode bM_plain 6 = .ok (.goto 4, 3) := by decide +kernel
theorem dM_plain_9 : decode bM_plain 9 = .ok (.iload_n 0, 1) := by decide +kernel
theorem dM_plain_10 : decode bM_plain 10 = .ok (.ireturn, 1) := by decide +kernel
theorem dM_far_0 : decode bM_far 0 = .ok (.iload_n 2, 1) := by decide +kernel
theorem dM_far_1 : decode bM_far 1 = .ok (.ifCond .ge 7, 3) := by decide +kernel
theorem dM_far_4 : decode bM_far 4 = .ok (.iconst 0, 1) := by decide +kernel
theorem dM_far_5 : decode bM_far 5 = .ok (.goto 14, 3) := by decide +kernel
theorem dM_far_8 : decode bM_far 8 = .ok (.aload_n 0, 1) := by decide +kernel
theorem dM_far_9 : decode bM_far 9 = .ok (.getfield 17, 3) := by decide +kernel
theorem dM_far_12 : decode bM_far 12 = .ok (.aload_n 0, 1) := by decide +kernel
theorem dM_far_13 : decode bM_far 13 = .ok (.getfield 30, 3) := by decide +kernel
theorem dM_far_16 : decode bM_far 16 = .ok (.iload_n 2, 1) := by decide +kernel
theorem dM_far_17 : decode bM_far 17 = .ok (.iaload, 1) := by decide +kernel
theorem dM_far_18 : decode bM_far 18 = .ok (.iaload, 1) := by decide +kernel
theorem dM_far_19 : decode bM_far 19 = .ok (.istore_n 3, 1) := by decide +kernel
theorem dM_far_20 : decode bM_far 20 = .ok (.iload_n 2, 1) := by decide +kernel
theorem dM_far_21 : decode bM_far 21 = .ok (.ifCond .ge 7, 3) := by decide +kernel
theorem dM_far_24 : decode bM_far 24 = .ok (.iconst 0, 1) := by decide +kernel
theorem dM_far_25 : decode bM_far 25 = .ok (.goto 14, 3) := by decide +kernel
theorem dM_far_28 : decode bM_far 28 = .ok (.aload_n 0, 1) := by decide +kernel
theorem dM_far_29 : decode bM_far 29 = .ok (.getfield 21, 3) := by decide +kernel
theorem dM_far_32 : decode bM_far 32 = .ok (.aload_n 0, 1) := by decide +kernel
theorem dM_far_33 : decode bM_far 33 = .ok (.getfield 30, 3) := by decide +kernel
theorem dM_far_36 : decode bM_far 36 = .ok (.iload_n 2, 1) := by decide +kernel
theorem dM_far_37 : decode bM_far 37 = .ok (.iaload, 1) := by decide +kernel
theorem dM_far_38 : decode bM_far 38 = .ok (.iaload, 1) := by decide +kernel
theorem dM_far_39 : decode bM_far 39 = .ok (.istore 4, 2) := by decide +kernel
theorem dM_far_41 : decode bM_far 41 = .ok (.aload_n 0, 1) := by decide +kernel
theorem dM_far_42 : decode bM_far 42 = .ok (.getfield 17, 3) := by decide +kernel
theorem dM_far_45 : decode bM_far 45 = .ok (.iload_n 1, 1) := by decide +kernel
theorem dM_far_46 : decode bM_far 46 = .ok (.iaload, 1) := by decide +kernel
theorem dM_far_47 : decode bM_far 47 = .ok (.iload_n 3, 1) := by decide +kernel
theorem dM_far_48 : decode bM_far 48 = .ok (.isub, 1) := by decide +kernel
theorem dM_far_49 : decode bM_far 49 = .ok (.invokestatic 104, 3) := by decide +kernel
theorem dM_far_52 : decode bM_far 52 = .ok (.aload_n 0, 1) := by decide +kernel
theorem dM_far_53 : decode bM_far 53 = .ok (.getfield 21, 3) := by decide +kernel
theorem dM_far_56 : decode bM_far 56 = .ok (.iload_n 1, 1) := by decide +kernel
theorem dM_far_57 : decode bM_far 57 = .ok (.iaload, 1) := by decide +kernel
theorem dM_far_58 : decode bM_far 58 = .ok (.iload 4, 2) := by decide +kernel
theorem dM_far_60 : decode bM_far 60 = .ok (.isub, 1) := by decide +kernel
theorem dM_far_61 : decode bM_far 61 = .ok (.invokestatic 104, 3) := by decide +kernel
theorem dM_far_64 : decode bM_far 64 = .ok (.iadd, 1) := by decide +kernel
theorem dM_far_65 : decode bM_far 65 = .ok (.ireturn, 1) := by decide +kernel
theorem dM_join_0 : decode bM_join 0 = .ok (.aload_n 0, 1) := by decide +kernel
theorem dM_join_1 : decode bM_join 1 = .ok (.iconst 0, 1) := by decide +kernel
theorem dM_join_2 : decode bM_join 2 = .ok (.putfield 107, 3) := by decide +kernel
theorem dM_join_5 : decode bM_join 5 = .ok (.iload_n 1, 1) := by decide +kernel
theorem dM_join_6 : decode bM_join 6 = .ok (.istore_n 2, 1) := by decide +kernel
theorem dM_join_7 : decode bM_join 7 = .ok (.iload_n 2, 1) := by decide +kernel
theorem dM_join_8 : decode bM_join 8 = .ok (.ifCond .eq 167, 3) := by decide +kernel
theorem dM_join_11 : decode bM_join 11 = .ok (.iconst (-1), 1) := by decide +kernel
theorem dM_join_12 : decode bM_join 12 = .ok (.istore_n 3, 1) := by decide +kernel
theorem dM_join_13 : decode bM_join 13 = .ok (.iconst (-1), 1) := by decide +kernel
theorem dM_join_14 : decode bM_join 14 = .ok (.istore 4, 2) := by decide +kernel
theorem dM_join_16 : decode bM_join 16 = .ok (.iconst 0, 1) := by decide +kernel
theorem dM_join_17 : decode bM_join 17 = .ok (.istore 5, 2) := by decide +kernel
theorem dM_join_19 : decode bM_join 19 = .ok (.iload 5, 2) := by decide +kernel
theorem dM_join_21 : decode bM_join 21 = .ok (.aload_n 0, 1) := by decide +kernel
theorem dM_join_22 : decode bM_join 22 = .ok (.getfield 54, 3) := by decide +kernel
theorem dM_join_25 : decode bM_join 25 = .ok (.if_icmp .ge 67, 3) := by decide +kernel
theorem dM_join_28 : decode bM_join 28 = .ok (.iconst (-1), 1) := by decide +kernel
theorem dM_join_29 : decode bM_join 29 = .ok (.istore 6, 2) := by decide +kernel
theorem dM_join_31 : decode bM_join 31 = .ok (.iload 6, 2) := by decide +kernel
theorem dM_join_33 : decode bM_join 33 = .ok (.aload_n 0, 1) := by decide +kernel
theorem dM_join_34 : decode bM_join 34 = .ok (.getfield 107, 3) := by decide +kernel
theorem dM_join_37 : decode bM_join 37 = .ok (.if_icmp .ge 49, 3) := by decide +kernel
theorem dM_join_40 : decode bM_join 40 = .ok (.iload_n 2, 1) := by decide +kernel
theorem dM_join_41 : decode bM_join 41 = .ok (.iload 5, 2) := by decide +kernel
theorem dM_join_43 : decode bM_join 43 = .ok (.ishr, 1) := by decide +kernel
theorem dM_join_44 : decode bM_join 44 = .ok (.iconst 1, 1) := by decide +kernel
theorem dM_join_45 : decode bM_join 45 = .ok (.iand, 1) := by decide +kernel
theorem dM_join_46 : decode bM_join 46 = .ok (.iconst 1, 1) := by decide +kernel
theorem dM_join_47 : decode bM_join 47 = .ok (.if_icmp .ne 39, 3) := by decide +kernel
theorem dM_join_50 : decode bM_join 50 = .ok (.iload_n 3, 1) := by decide +kernel
theorem dM_join_51 : decode bM_join 51 = .ok (.iconst (-1), 1) := by decide +kernel
theorem dM_join_52 : decode bM_join 52 = .ok (.if_icmp .eq 21, 3) := by decide +kernel
theorem dM_join_55 : decode bM_join 55 = .ok (.aload_n 0, 1) := by decide +kernel
theorem dM_join_56 : decode bM_join 56 = .ok (.iload 5, 2) := by decide +kernel
theorem dM_join_58 : decode bM_join 58 = .ok (.iload 6, 2) := by decide +kernel
theorem dM_join_60 : decode bM_join 60 = .ok (.invokevirtual 110, 3) := by decide +kernel
theorem dM_join_63 : decode bM_join 63 = .ok (.aload_n 0, 1) := by decide +kernel
theorem dM_join_64 : decode bM_join 64 = .ok (.iload_n 3, 1) := by decide +kernel
theorem dM_join_65 : decode bM_join 65 = .ok (.iload 4, 2) := by decide +kernel
theorem dM_join_67 : decode bM_join 67 = .ok (.invokevirtual 110, 3) := by decide +kernel
theorem dM_join_70 : decode bM_join 70 = .ok (.if_icmp .ge 10, 3) := by decide +kernel
theorem dM_join_73 : decode bM_join 73 = .ok (.iload 5, 2) := by decide +kernel
theorem dM_join_75 : decode bM_join 75 = .ok (.istore_n 3, 1) := by decide +kernel
theorem dM_join_76 : decode bM_join 76 = .ok (.iload 6, 2) := by decide +kernel
theorem dM_join_78 : decode bM_join 78 = .ok (.istore 4, 2) := by decide +kernel
theorem dM_join_80 : decode bM_join 80 = .ok (.iinc 6 1, 3) := by decide +kernel
theorem dM_join_83 : decode bM_join 83 = .ok (.goto (-52), 3) := by decide +kernel
theorem dM_join_86 : decode bM_join 86 = .ok (.iinc 5 1, 3) := by decide +kernel
theorem dM_join_89 : decode bM_join 89 = .ok (.goto (-70), 3) := by decide +kernel
theorem dM_join_92 : decode bM_join 92 = .ok (.aload_n 0, 1) := by decide +kernel
theorem dM_join_93 : decode bM_join 93 = .ok (.getfield 33, 3) := by decide +kernel
theorem dM_join_96 : decode bM_join 96 = .ok (.iload_n 3, 1) := by decide +kernel
theorem dM_join_97 : decode bM_join 97 = .ok (.iload 4, 2) := by decide +kernel
theorem dM_join_99 : decode bM_join 99 = .ok (.ifCond .ge 7, 3) := by decide +kernel
theorem dM_join_102 : decode bM_join 102 = .ok (.iconst (-1), 1) := by decide +kernel
theorem dM_join_103 : decode bM_join 103 = .ok (.goto 10, 3) := by decide +kernel
theorem dM_join_106 : decode bM_join 106 = .ok (.aload_n 0, 1) := by decide +kernel
theorem dM_join_107 : decode bM_join 107 = .ok (.getfield 30, 3) := by decide +kernel
theorem dM_join_110 : decode bM_join 110 = .ok (.iload 4, 2) := by decide +kernel
theorem dM_join_112 : decode bM_join 112 = .ok (.iaload, 1) := by decide +kernel
theorem dM_join_113 : decode bM_join 113 = .ok (.iastore, 1) := by decide +kernel
theorem dM_join_114 : decode bM_join 114 = .ok (.aload_n 0, 1) := by decide +kernel
theorem dM_join_115 : decode bM_join 115 = .ok (.getfield 36, 3) := by decide +kernel
theorem dM_join_118 : decode bM_join 118 = .ok (.iload_n 3, 1) := by decide +kernel
theorem dM_join_119 : decode bM_join 119 = .ok (.aload_n 0, 1) := by decide +kernel
theorem dM_join_120 : decode bM_join 120 = .ok (.iload_n 3, 1) := by decide +kernel
theorem dM_join_121 : decode bM_join 121 = .ok (.iload 4, 2) := by decide +kernel
theorem dM_join_123 : decode bM_join 123 = .ok (.invokevirtual 110, 3) := by decide +kernel
theorem dM_join_126 : decode bM_join 126 = .ok (.iastore, 1) := by decide +kernel
theorem dM_join_127 : decode bM_join 127 = .ok (.aload_n 0, 1) := by decide +kernel
theorem dM_join_128 : decode bM_join 128 = .ok (.getfield 39, 3) := by decide +kernel
theorem dM_join_131 : decode bM_join 131 = .ok (.iload_n 3, 1) := by decide +kernel
theorem dM_join_132 : decode bM_join 132 = .ok (.iconst 0, 1) := by decide +kernel
theorem dM_join_133 : decode bM_join 133 = .ok (.iastore, 1) := by decide +kernel
theorem dM_join_134 : decode bM_join 134 = .ok (.aload_n 0, 1) := by decide +kernel
theorem dM_join_135 : decode bM_join 135 = .ok (.getfield 42, 3) := by decide +kernel
theorem dM_join_138 : decode bM_join 138 = .ok (.iload_n 3, 1) := by decide +kernel
theorem dM_join_139 : decode bM_join 139 = .ok (.aload_n 0, 1) := by decide +kernel
theorem dM_join_140 : decode bM_join 140 = .ok (.getfield 107, 3) := by decide +kernel
theorem dM_join_143 : decode bM_join 143 = .ok (.iastore, 1) := by decide +kernel
theorem dM_join_144 : decode bM_join 144 = .ok (.aload_n 0, 1) := by decide +kernel
theorem dM_join_145 : decode bM_join 145 = .ok (.getfield 30, 3) := by decide +kernel
theorem dM_join_148 : decode bM_join 148 = .ok (.aload_n 0, 1) := by decide +kernel
theorem dM_join_149 : decode bM_join 149 = .ok (.getfield 107, 3) := by decide +kernel
theorem dM_join_152 : decode bM_join 152 = .ok (.iload_n 3, 1) := by decide +kernel
theorem dM_join_153 : decode bM_join 153 = .ok (.iastore, 1) := by decide +kernel
theorem dM_join_154 : decode bM_join 154 = .ok (.aload_n 0, 1) := by decide +kernel
theorem dM_join_155 : decode bM_join 155 = .ok (.dup, 1) := by decide +kernel
theorem dM_join_156 : decode bM_join 156 = .ok (.getfield 107, 3) := by decide +kernel
theorem dM_join_159 : decode bM_join 159 = .ok (.iconst 1, 1) := by decide +kernel
theorem dM_join_160 : decode bM_join 160 = .ok (.iadd, 1) := by decide +kernel
theorem dM_join_161 : decode bM_join 161 = .ok (.putfield 107, 3) := by decide +kernel
theorem dM_join_164 : decode bM_join 164 = .ok (.iload_n 2, 1) := by decide +kernel
theorem dM_join_165 : decode bM_join 165 = .ok (.iconst 1, 1) := by decide +kernel
theorem dM_join_166 : decode bM_join 166 = .ok (.iload_n 3, 1) := by decide +kernel
theorem dM_join_167 : decode bM_join 167 = .ok (.ishl, 1) := by decide +kernel
theorem dM_join_168 : decode bM_join 168 = .ok (.iconst (-1), 1) := by decide +kernel
theorem dM_join_169 : decode bM_join 169 = .ok (.ixor, 1) := by decide +kernel
theorem dM_join_170 : decode bM_join 170 = .ok (.iand, 1) := by decide +kernel
theorem dM_join_171 : decode bM_join 171 = .ok (.istore_n 2, 1) := by decide +kernel
theorem dM_join_172 : decode bM_join 172 = .ok (.goto (-165), 3) := by decide +kernel
theorem dM_join_175 : decode bM_join 175 = .ok (.iconst 0, 1) := by decide +kernel
theorem dM_join_176 : decode bM_join 176 = .ok (.istore_n 3, 1) := by decide +kernel
theorem dM_join_177 : decode bM_join 177 = .ok (.iload_n 3, 1) := by decide +kernel
theorem dM_join_178 : decode bM_join 178 = .ok (.aload_n 0, 1) := by decide +kernel
theorem dM_join_179 : decode bM_join 179 = .ok (.getfield 107, 3) := by decide +kernel
theorem dM_join_182 : decode bM_join 182 = .ok (.if_icmp .ge 46, 3) := by decide +kernel
theorem dM_join_185 : decode bM_join 185 = .ok (.aload_n 0, 1) := by decide +kernel
theorem dM_join_186 : decode bM_join 186 = .ok (.getfield 30, 3) := by decide +kernel
theorem dM_join_189 : decode bM_join 189 = .ok (.iload_n 3, 1) := by decide +kernel
theorem dM_join_190 : decode bM_join 190 = .ok (.iaload, 1) := by decide +kernel
theorem dM_join_191 : decode bM_join 191 = .ok (.istore 4, 2) := by decide +kernel
theorem dM_join_193 : decode bM_join 193 = .ok (.iload 4, 2) := by decide +kernel
theorem dM_join_195 : decode bM_join 195 = .ok (.iconst (-1), 1) := by decide +kernel
theorem dM_join_196 : decode bM_join 196 = .ok (.if_icmp .eq 26, 3) := by decide +kernel
theorem dM_join_199 : decode bM_join 199 = .ok (.aload_n 0, 1) := by decide +kernel
theorem dM_join_200 : decode bM_join 200 = .ok (.getfield 39, 3) := by decide +kernel
theorem dM_join_203 : decode bM_join 203 = .ok (.iload 4, 2) := by decide +kernel
theorem dM_join_205 : decode bM_join 205 = .ok (.dup2, 1) := by decide +kernel
theorem dM_join_206 : decode bM_join 206 = .ok (.iaload, 1) := by decide +kernel
theorem dM_join_207 : decode bM_join 207 = .ok (.iconst 1, 1) := by decide +kernel
theorem dM_join_208 : decode bM_join 208 = .ok (.iadd, 1) := by decide +kernel
theorem dM_join_209 : decode bM_join 209 = .ok (.iastore, 1) := by decide +kernel
theorem dM_join_210 : decode bM_join 210 = .ok (.aload_n 0, 1) := by decide +kernel
theorem dM_join_211 : decode bM_join 211 = .ok (.getfield 33, 3) := by decide +kernel
theorem dM_join_214 : decode bM_join 214 = .ok (.iload 4, 2) := by decide +kernel
theorem dM_join_216 : decode bM_join 216 = .ok (.iaload, 1) := by decide +kernel
theorem dM_join_217 : decode bM_join 217 = .ok (.istore 4, 2) := by decide +kernel
theorem dM_join_219 : decode bM_join 219 = .ok (.goto (-26), 3) := by decide +kernel
theorem dM_join_222 : decode bM_join 222 = .ok (.iinc 3 1, 3) := by decide +kernel
theorem dM_join_225 : decode bM_join 225 = .ok (.goto (-48), 3) := by decide +kernel
theorem dM_join_228 : decode bM_join 228 = .ok (.return_, 1) := by decide +kernel
theorem dM_lossOf_0 : decode bM_lossOf 0 = .ok (.iconst 0, 1) := by decide +kernel
theorem dM_lossOf_1 : decode bM_lossOf 1 = .ok (.istore_n 2, 1) := by decide +kernel
theorem dM_lossOf_2 : decode bM_lossOf 2 = .ok (.bipush 12, 2) := by decide +kernel
theorem dM_lossOf_4 : decode bM_lossOf 4 = .ok (.istore_n 3, 1) := by decide +kernel
theorem dM_lossOf_5 : decode bM_lossOf 5 = .ok (.iload_n 3, 1) := by decide +kernel
theorem dM_lossOf_6 : decode bM_lossOf 6 = .ok (.ifCond .le 46, 3) := by decide +kernel
theorem dM_lossOf_9 : decode bM_lossOf 9 = .ok (.iload_n 3, 1) := by decide +kernel
theorem dM_lossOf_10 : decode bM_lossOf 10 = .ok (.iload_n 1, 1) := by decide +kernel
theorem dM_lossOf_11 : decode bM_lossOf 11 = .ok (.if_icmp .lt 7, 3) := by decide +kernel
theorem dM_lossOf_14 : decode bM_lossOf 14 = .ok (.iconst 1, 1) := by decide +kernel
theorem dM_lossOf_15 : decode bM_lossOf 15 = .ok (.goto 4, 3) := by decide +kernel
theorem dM_lossOf_18 : decode bM_lossOf 18 = .ok (.iconst 0, 1) := by decide +kernel
theorem dM_lossOf_19 : decode bM_lossOf 19 = .ok (.istore 4, 2) := by decide +kernel
theorem dM_lossOf_21 : decode bM_lossOf 21 = .ok (.aload_n 0, 1) := by decide +kernel
theorem dM_lossOf_22 : decode bM_lossOf 22 = .ok (.getfield 24, 3) := by decide +kernel
theorem dM_lossOf_25 : decode bM_lossOf 25 = .ok (.iload_n 3, 1) := by decide +kernel
theorem dM_lossOf_26 : decode bM_lossOf 26 = .ok (.iaload, 1) := by decide +kernel
theorem dM_lossOf_27 : decode bM_lossOf 27 = .ok (.ifCond .lt 17, 3) := by decide +kernel
theorem dM_lossOf_30 : decode bM_lossOf 30 = .ok (.iload 4, 2) := by decide +kernel
theorem dM_lossOf_32 : decode bM_lossOf 32 = .ok (.ifCond .eq 12, 3) := by decide +kernel
theorem dM_lossOf_35 : decode bM_lossOf 35 = .ok (.aload_n 0, 1) := by decide +kernel
theorem dM_lossOf_36 : decode bM_lossOf 36 = .ok (.getfield 24, 3) := by decide +kernel
theorem dM_lossOf_39 : decode bM_lossOf 39 = .ok (.iload_n 3, 1) := by decide +kernel
theorem dM_lossOf_40 : decode bM_lossOf 40 = .ok (.iaload, 1) := by decide +kernel
theorem dM_lossOf_41 : decode bM_lossOf 41 = .ok (.goto 4, 3) := by decide +kernel
theorem dM_lossOf_44 : decode bM_lossOf 44 = .ok (.iload_n 2, 1) := by decide +kernel
theorem dM_lossOf_45 : decode bM_lossOf 45 = .ok (.istore_n 2, 1) := by decide +kernel
theorem dM_lossOf_46 : decode bM_lossOf 46 = .ok (.iinc 3 (-1), 3) := by decide +kernel
theorem dM_lossOf_49 : decode bM_lossOf 49 = .ok (.goto (-44), 3) := by decide +kernel
theorem dM_lossOf_52 : decode bM_lossOf 52 = .ok (.iconst 0, 1) := by decide +kernel
theorem dM_lossOf_53 : decode bM_lossOf 53 = .ok (.istore_n 3, 1) := by decide +kernel
theorem dM_lossOf_54 : decode bM_lossOf 54 = .ok (.iconst 0, 1) := by decide +kernel
theorem dM_lossOf_55 : decode bM_lossOf 55 = .ok (.istore 4, 2) := by decide +kernel
theorem dM_lossOf_57 : decode bM_lossOf 57 = .ok (.iconst 1, 1) := by decide +kernel
theorem dM_lossOf_58 : decode bM_lossOf 58 = .ok (.istore 5, 2) := by decide +kernel
theorem dM_lossOf_60 : decode bM_lossOf 60 = .ok (.iload 5, 2) := by decide +kernel
theorem dM_lossOf_62 : decode bM_lossOf 62 = .ok (.bipush 13, 2) := by decide +kernel
theorem dM_lossOf_64 : decode bM_lossOf 64 = .ok (.if_icmp .ge 59, 3) := by decide +kernel
theorem dM_lossOf_67 : decode bM_lossOf 67 = .ok (.iload_n 3, 1) := by decide +kernel
theorem dM_lossOf_68 : decode bM_lossOf 68 = .ok (.ifCond .ne 19, 3) := by decide +kernel
theorem dM_lossOf_71 : decode bM_lossOf 71 = .ok (.aload_n 0, 1) := by decide +kernel
theorem dM_lossOf_72 : decode bM_lossOf 72 = .ok (.getfield 24, 3) := by decide +kernel
theorem dM_lossOf_75 : decode bM_lossOf 75 = .ok (.iload 5, 2) := by decide +kernel
theorem dM_lossOf_77 : decode bM_lossOf 77 = .ok (.iaload, 1) := by decide +kernel
theorem dM_lossOf_78 : decode bM_lossOf 78 = .ok (.ifCond .lt 13, 3) := by decide +kernel
theorem dM_lossOf_81 : decode bM_lossOf 81 = .ok (.iload 5, 2) := by decide +kernel
theorem dM_lossOf_83 : decode bM_lossOf 83 = .ok (.iload_n 1, 1) := by decide +kernel
theorem dM_lossOf_84 : decode bM_lossOf 84 = .ok (.if_icmp .lt 7, 3) := by decide +kernel
theorem dM_lossOf_87 : decode bM_lossOf 87 = .ok (.iconst 1, 1) := by decide +kernel
theorem dM_lossOf_88 : decode bM_lossOf 88 = .ok (.goto 4, 3) := by decide +kernel
theorem dM_lossOf_91 : decode bM_lossOf 91 = .ok (.iconst 0, 1) := by decide +kernel
theorem dM_lossOf_92 : decode bM_lossOf 92 = .ok (.istore_n 3, 1) := by decide +kernel
theorem dM_lossOf_93 : decode bM_lossOf 93 = .ok (.aload_n 0, 1) := by decide +kernel
theorem dM_lossOf_94 : decode bM_lossOf 94 = .ok (.getfield 24, 3) := by decide +kernel
theorem dM_lossOf_97 : decode bM_lossOf 97 = .ok (.iload 5, 2) := by decide +kernel
theorem dM_lossOf_99 : decode bM_lossOf 99 = .ok (.iaload, 1) := by decide +kernel
theorem dM_lossOf_100 : decode bM_lossOf 100 = .ok (.ifCond .lt 13, 3) := by decide +kernel
theorem dM_lossOf_103 : decode bM_lossOf 103 = .ok (.aload_n 0, 1) := by decide +kernel
theorem dM_lossOf_104 : decode bM_lossOf 104 = .ok (.getfield 24, 3) := by decide +kernel
theorem dM_lossOf_107 : decode bM_lossOf 107 = .ok (.iload 5, 2) := by decide +kernel
theorem dM_lossOf_109 : decode bM_lossOf 109 = .ok (.iaload, 1) := by decide +kernel
theorem dM_lossOf_110 : decode bM_lossOf 110 = .ok (.goto 5, 3) := by decide +kernel
theorem dM_lossOf_113 : decode bM_lossOf 113 = .ok (.iload 4, 2) := by decide +kernel
theorem dM_lossOf_115 : decode bM_lossOf 115 = .ok (.istore 4, 2) := by decide +kernel
theorem dM_lossOf_117 : decode bM_lossOf 117 = .ok (.iinc 5 1, 3) := by decide +kernel
theorem dM_lossOf_120 : decode bM_lossOf 120 = .ok (.goto (-60), 3) := by decide +kernel
theorem dM_lossOf_123 : decode bM_lossOf 123 = .ok (.iload_n 3, 1) := by decide +kernel
theorem dM_lossOf_124 : decode bM_lossOf 124 = .ok (.ifCond .eq 7, 3) := by decide +kernel
theorem dM_lossOf_127 : decode bM_lossOf 127 = .ok (.iload_n 2, 1) := by decide +kernel
theorem dM_lossOf_128 : decode bM_lossOf 128 = .ok (.goto 5, 3) := by decide +kernel
theorem dM_lossOf_131 : decode bM_lossOf 131 = .ok (.iload 4, 2) := by decide +kernel
theorem dM_lossOf_133 : decode bM_lossOf 133 = .ok (.ireturn, 1) := by decide +kernel
theorem dM_pipes_0 : decode bM_pipes 0 = .ok (.aload_n 0, 1) := by decide +kernel
theorem dM_pipes_1 : decode bM_pipes 1 = .ok (.aload_n 0, 1) := by decide +kernel
theorem dM_pipes_2 : decode bM_pipes 2 = .ok (.iload_n 1, 1) := by decide +kernel
theorem dM_pipes_3 : decode bM_pipes 3 = .ok (.invokevirtual 91, 3) := by decide +kernel
theorem dM_pipes_6 : decode bM_pipes 6 = .ok (.ifCond .eq 7, 3) := by decide +kernel
theorem dM_pipes_9 : decode bM_pipes 9 = .ok (.iconst 0, 1) := by decide +kernel
theorem dM_pipes_10 : decode bM_pipes 10 = .ok (.goto 4, 3) := by decide +kernel
theorem dM_pipes_13 : decode bM_pipes 13 = .ok (.iconst 1, 1) := by decide +kernel
theorem dM_pipes_14 : decode bM_pipes 14 = .ok (.putfield 51, 3) := by decide +kernel
theorem dM_pipes_17 : decode bM_pipes 17 = .ok (.aload_n 0, 1) := by decide +kernel
theorem dM_pipes_18 : decode bM_pipes 18 = .ok (.getfield 51, 3) := by decide +kernel
theorem dM_pipes_21 : decode bM_pipes 21 = .ok (.ifCond .le 5, 3) := by decide +kernel
theorem dM_pipes_24 : decode bM_pipes 24 = .ok (.iconst 0, 1) := by decide +kernel
theorem dM_pipes_25 : decode bM_pipes 25 = .ok (.ireturn, 1) := by decide +kernel
theorem dM_pipes_26 : decode bM_pipes 26 = .ok (.aload_n 0, 1) := by decide +kernel
theorem dM_pipes_27 : decode bM_pipes 27 = .ok (.iload_n 1, 1) := by decide +kernel
theorem dM_pipes_28 : decode bM_pipes 28 = .ok (.invokevirtual 113, 3) := by decide +kernel
theorem dM_pipes_31 : decode bM_pipes 31 = .ok (.iconst 0, 1) := by decide +kernel
theorem dM_pipes_32 : decode bM_pipes 32 = .ok (.istore_n 2, 1) := by decide +kernel
theorem dM_pipes_33 : decode bM_pipes 33 = .ok (.iconst 0, 1) := by decide +kernel
theorem dM_pipes_34 : decode bM_pipes 34 = .ok (.istore_n 3, 1) := by decide +kernel
theorem dM_pipes_35 : decode bM_pipes 35 = .ok (.iload_n 3, 1) := by decide +kernel
theorem dM_pipes_36 : decode bM_pipes 36 = .ok (.aload_n 0, 1) := by decide +kernel
theorem dM_pipes_37 : decode bM_pipes 37 = .ok (.getfield 107, 3) := by decide +kernel
theorem dM_pipes_40 : decode bM_pipes 40 = .ok (.if_icmp .ge 23, 3) := by decide +kernel
theorem dM_pipes_43 : decode bM_pipes 43 = .ok (.iload_n 2, 1) := by decide +kernel
theorem dM_pipes_44 : decode bM_pipes 44 = .ok (.aload_n 0, 1) := by decide +kernel
theorem dM_pipes_45 : decode bM_pipes 45 = .ok (.getfield 36, 3) := by decide +kernel
theorem dM_pipes_48 : decode bM_pipes 48 = .ok (.aload_n 0, 1) := by decide +kernel
theorem dM_pipes_49 : decode bM_pipes 49 = .ok (.getfield 30, 3) := by decide +kernel
theorem dM_pipes_52 : decode bM_pipes 52 = .ok (.iload_n 3, 1) := by decide +kernel
theorem dM_pipes_53 : decode bM_pipes 53 = .ok (.iaload, 1) := by decide +kernel
theorem dM_pipes_54 : decode bM_pipes 54 = .ok (.iaload, 1) := by decide +kernel
theorem dM_pipes_55 : decode bM_pipes 55 = .ok (.iadd, 1) := by decide +kernel
theorem dM_pipes_56 : decode bM_pipes 56 = .ok (.istore_n 2, 1) := by decide +kernel
theorem dM_pipes_57 : decode bM_pipes 57 = .ok (.iinc 3 1, 3) := by decide +kernel
theorem dM_pipes_60 : decode bM_pipes 60 = .ok (.goto (-25), 3) := by decide +kernel
theorem dM_pipes_63 : decode bM_pipes 63 = .ok (.iload_n 2, 1) := by decide +kernel
theorem dM_pipes_64 : decode bM_pipes 64 = .ok (.ireturn, 1) := by decide +kernel
theorem dM_isIn_0 : decode bM_isIn 0 = .ok (.iload_n 1, 1) := by decide +kernel
theorem dM_isIn_1 : decode bM_isIn 1 = .ok (.iload_n 2, 1) := by decide +kernel
theorem dM_isIn_2 : decode bM_isIn 2 = .ok (.ishr, 1) := by decide +kernel
theorem dM_isIn_3 : decode bM_isIn 3 = .ok (.iconst 1, 1) := by decide +kernel
theorem dM_isIn_4 : decode bM_isIn 4 = .ok (.iand, 1) := by decide +kernel
theorem dM_isIn_5 : decode bM_isIn 5 = .ok (.iconst 1, 1) := by decide +kernel
theorem dM_isIn_6 : decode bM_isIn 6 = .ok (.if_icmp .ne 7, 3) := by decide +kernel
theorem dM_isIn_9 : decode bM_isIn 9 = .ok (.iconst 1, 1) := by decide +kernel
theorem dM_isIn_10 : decode bM_isIn 10 = .ok (.goto 4, 3) := by decide +kernel
theorem dM_isIn_13 : decode bM_isIn 13 = .ok (.iconst 0, 1) := by decide +kernel
theorem dM_isIn_14 : decode bM_isIn 14 = .ok (.ireturn, 1) := by decide +kernel
theorem dM_pipe_0 : decode bM_pipe 0 = .ok (.aload_n 0, 1) := by decide +kernel
theorem dM_pipe_1 : decode bM_pipe 1 = .ok (.aload_n 0, 1) := by decide +kernel
theorem dM_pipe_2 : decode bM_pipe 2 = .ok (.iload_n 1, 1) := by decide +kernel
theorem dM_pipe_3 : decode bM_pipe 3 = .ok (.invokevirtual 91, 3) := by decide +kernel
theorem dM_pipe_6 : decode bM_pipe 6 = .ok (.ifCond .eq 24, 3) := by decide +kernel
theorem dM_pipe_9 : decode bM_pipe 9 = .ok (.aload_n 0, 1) := by decide +kernel
theorem dM_pipe_10 : decode bM_pipe 10 = .ok (.iload_n 2, 1) := by decide +kernel
theorem dM_pipe_11 : decode bM_pipe 11 = .ok (.invokevirtual 87, 3) := by decide +kernel
theorem dM_pipe_14 : decode bM_pipe 14 = .ok (.ifCond .eq 16, 3) := by decide +kernel
theorem dM_pipe_17 : decode bM_pipe 17 = .ok (.iload_n 3, 1) := by decide +kernel
theorem dM_pipe_18 : decode bM_pipe 18 = .ok (.ifCond .lt 12, 3) := by decide +kernel
theorem dM_pipe_21 : decode bM_pipe 21 = .ok (.iload_n 3, 1) := by decide +kernel
theorem dM_pipe_22 : decode bM_pipe 22 = .ok (.iconst 4, 1) := by decide +kernel
theorem dM_pipe_23 : decode bM_pipe 23 = .ok (.if_icmp .gt 7, 3) := by decide +kernel
theorem dM_pipe_26 : decode bM_pipe 26 = .ok (.iconst 0, 1) := by decide +kernel
theorem dM_pipe_27 : decode bM_pipe 27 = .ok (.goto 4, 3) := by decide +kernel
theorem dM_pipe_30 : decode bM_pipe 30 = .ok (.iconst 1, 1) := by decide +kernel
theorem dM_pipe_31 : decode bM_pipe 31 = .ok (.putfield 51, 3) := by decide +kernel
theorem dM_pipe_34 : decode bM_pipe 34 = .ok (.aload_n 0, 1) := by decide +kernel
theorem dM_pipe_35 : decode bM_pipe 35 = .ok (.getfield 51, 3) := by decide +kernel
theorem dM_pipe_38 : decode bM_pipe 38 = .ok (.ifCond .le 5, 3) := by decide +kernel
theorem dM_pipe_41 : decode bM_pipe 41 = .ok (.iconst 0, 1) := by decide +kernel
theorem dM_pipe_42 : decode bM_pipe 42 = .ok (.ireturn, 1) := by decide +kernel
theorem dM_pipe_43 : decode bM_pipe 43 = .ok (.aload_n 0, 1) := by decide +kernel
theorem dM_pipe_44 : decode bM_pipe 44 = .ok (.iload_n 1, 1) := by decide +kernel
theorem dM_pipe_45 : decode bM_pipe 45 = .ok (.iload_n 2, 1) := by decide +kernel
theorem dM_pipe_46 : decode bM_pipe 46 = .ok (.invokevirtual 117, 3) := by decide +kernel
theorem dM_pipe_49 : decode bM_pipe 49 = .ok (.ifCond .ne 5, 3) := by decide +kernel
theorem dM_pipe_52 : decode bM_pipe 52 = .ok (.iconst (-1), 1) := by decide +kernel
theorem dM_pipe_53 : decode bM_pipe 53 = .ok (.ireturn, 1) := by decide +kernel
theorem dM_pipe_54 : decode bM_pipe 54 = .ok (.aload_n 0, 1) := by decide +kernel
theorem dM_pipe_55 : decode bM_pipe 55 = .ok (.iload_n 1, 1) := by decide +kernel
theorem dM_pipe_56 : decode bM_pipe 56 = .ok (.invokevirtual 113, 3) := by decide +kernel
theorem dM_pipe_59 : decode bM_pipe 59 = .ok (.iload_n 3, 1) := by decide +kernel
theorem dM_pipe_60 : decode bM_pipe 60 = .ok (.tableswitch 64 0 3 #[32, 39, 46, 53], 32) := by decide +kernel
theorem dM_pipe_92 : decode bM_pipe 92 = .ok (.aload_n 0, 1) := by decide +kernel
theorem dM_pipe_93 : decode bM_pipe 93 = .ok (.getfield 33, 3) := by decide +kernel
theorem dM_pipe_96 : decode bM_pipe 96 = .ok (.iload_n 2, 1) := by decide +kernel
theorem dM_pipe_97 : decode bM_pipe 97 = .ok (.iaload, 1) := by decide +kernel
theorem dM_pipe_98 : decode bM_pipe 98 = .ok (.ireturn, 1) := by decide +kernel
theorem dM_pipe_99 : decode bM_pipe 99 = .ok (.aload_n 0, 1) := by decide +kernel
theorem dM_pipe_100 : decode bM_pipe 100 = .ok (.getfield 36, 3) := by decide +kernel
theorem dM_pipe_103 : decode bM_pipe 103 = .ok (.iload_n 2, 1) := by decide +kernel
theorem dM_pipe_104 : decode bM_pipe 104 = .ok (.iaload, 1) := by decide +kernel
theorem dM_pipe_105 : decode bM_pipe 105 = .ok (.ireturn, 1) := by decide +kernel
theorem dM_pipe_106 : decode bM_pipe 106 = .ok (.aload_n 0, 1) := by decide +kernel
theorem dM_pipe_107 : decode bM_pipe 107 = .ok (.getfield 39, 3) := by decide +kernel
theorem dM_pipe_110 : decode bM_pipe 110 = .ok (.iload_n 2, 1) := by decide +kernel
theorem dM_pipe_111 : decode bM_pipe 111 = .ok (.iaload, 1) := by decide +kernel
theorem dM_pipe_112 : decode bM_pipe 112 = .ok (.ireturn, 1) := by decide +kernel
theorem dM_pipe_113 : decode bM_pipe 113 = .ok (.aload_n 0, 1) := by decide +kernel
theorem dM_pipe_114 : decode bM_pipe 114 = .ok (.aload_n 0, 1) := by decide +kernel
theorem dM_pipe_115 : decode bM_pipe 115 = .ok (.getfield 39, 3) := by decide +kernel
theorem dM_pipe_118 : decode bM_pipe 118 = .ok (.iload_n 2, 1) := by decide +kernel
theorem dM_pipe_119 : decode bM_pipe 119 = .ok (.iaload, 1) := by decide +kernel
theorem dM_pipe_120 : decode bM_pipe 120 = .ok (.invokevirtual 120, 3) := by decide +kernel
theorem dM_pipe_123 : decode bM_pipe 123 = .ok (.ireturn, 1) := by decide +kernel
theorem dM_pipe_124 : decode bM_pipe 124 = .ok (.aload_n 0, 1) := by decide +kernel
theorem dM_pipe_125 : decode bM_pipe 125 = .ok (.getfield 42, 3) := by decide +kernel
theorem dM_pipe_128 : decode bM_pipe 128 = .ok (.iload_n 2, 1) := by decide +kernel
theorem dM_pipe_129 : decode bM_pipe 129 = .ok (.iaload, 1) := by decide +kernel
theorem dM_pipe_130 : decode bM_pipe 130 = .ok (.ireturn, 1) := by decide +kernel
theorem dM_lost_0 : decode bM_lost 0 = .ok (.iconst 0, 1) := by decide +kernel
theorem dM_lost_1 : decode bM_lost 1 = .ok (.istore_n 2, 1) := by decide +kernel
theorem dM_lost_2 : decode bM_lost 2 = .ok (.iload_n 1, 1) := by decide +kernel
theorem dM_lost_3 : decode bM_lost 3 = .ok (.istore_n 3, 1) := by decide +kernel
theorem dM_lost_4 : decode bM_lost 4 = .ok (.iload_n 3, 1) := by decide +kernel
theorem dM_lost_5 : decode bM_lost 5 = .ok (.iconst (-1), 1) := by decide +kernel
theorem dM_lost_6 : decode bM_lost 6 = .ok (.if_icmp .eq 40, 3) := by decide +kernel
theorem dM_lost_9 : decode bM_lost 9 = .ok (.iload_n 2, 1) := by decide +kernel
theorem dM_lost_10 : decode bM_lost 10 = .ok (.aload_n 0, 1) := by decide +kernel
theorem dM_lost_11 : decode bM_lost 11 = .ok (.getfield 36, 3) := by decide +kernel
theorem dM_lost_14 : decode bM_lost 14 = .ok (.iload_n 3, 1) := by decide +kernel
theorem dM_lost_15 : decode bM_lost 15 = .ok (.iaload, 1) := by decide +kernel
theorem dM_lost_16 : decode bM_lost 16 = .ok (.aload_n 0, 1) := by decide +kernel
theorem dM_lost_17 : decode bM_lost 17 = .ok (.aload_n 0, 1) := by decide +kernel
theorem dM_lost_18 : decode bM_lost 18 = .ok (.getfield 39, 3) := by decide +kernel
theorem dM_lost_21 : decode bM_lost 21 = .ok (.iload_n 3, 1) := by decide +kernel
theorem dM_lost_22 : decode bM_lost 22 = .ok (.iaload, 1) := by decide +kernel
theorem dM_lost_23 : decode bM_lost 23 = .ok (.invokevirtual 120, 3) := by decide +kernel
theorem dM_lost_26 : decode bM_lost 26 = .ok (.imul, 1) := by decide +kernel
theorem dM_lost_27 : decode bM_lost 27 = .ok (.aload_n 0, 1) := by decide +kernel
theorem dM_lost_28 : decode bM_lost 28 = .ok (.getfield 39, 3) := by decide +kernel
theorem dM_lost_31 : decode bM_lost 31 = .ok (.iload_n 3, 1) := by decide +kernel
theorem dM_lost_32 : decode bM_lost 32 = .ok (.iaload, 1) := by decide +kernel
theorem dM_lost_33 : decode bM_lost 33 = .ok (.imul, 1) := by decide +kernel
theorem dM_lost_34 : decode bM_lost 34 = .ok (.iadd, 1) := by decide +kernel
theorem dM_lost_35 : decode bM_lost 35 = .ok (.istore_n 2, 1) := by decide +kernel
theorem dM_lost_36 : decode bM_lost 36 = .ok (.aload_n 0, 1) := by decide +kernel
theorem dM_lost_37 : decode bM_lost 37 = .ok (.getfield 33, 3) := by decide +kernel
theorem dM_lost_40 : decode bM_lost 40 = .ok (.iload_n 3, 1) := by decide +kernel
theorem dM_lost_41 : decode bM_lost 41 = .ok (.iaload, 1) := by decide +kernel
theorem dM_lost_42 : decode bM_lost 42 = .ok (.istore_n 3, 1) := by decide +kernel
theorem dM_lost_43 : decode bM_lost 43 = .ok (.goto (-39), 3) := by decide +kernel
theorem dM_lost_46 : decode bM_lost 46 = .ok (.iload_n 2, 1) := by decide +kernel
theorem dM_lost_47 : decode bM_lost 47 = .ok (.ireturn, 1) := by decide +kernel
theorem dM_lacks_0 : decode bM_lacks 0 = .ok (.aload_n 0, 1) := by decide +kernel
theorem dM_lacks_1 : decode bM_lacks 1 = .ok (.aload_n 0, 1) := by decide +kernel
theorem dM_lacks_2 : decode bM_lacks 2 = .ok (.iload_n 1, 1) := by decide +kernel
theorem dM_lacks_3 : decode bM_lacks 3 = .ok (.invokevirtual 91, 3) := by decide +kernel
theorem dM_lacks_6 : decode bM_lacks 6 = .ok (.ifCond .eq 15, 3) := by decide +kernel
theorem dM_lacks_9 : decode bM_lacks 9 = .ok (.aload_n 0, 1) := by decide +kernel
theorem dM_lacks_10 : decode bM_lacks 10 = .ok (.iload_n 2, 1) := by decide +kernel
theorem dM_lacks_11 : decode bM_lacks 11 = .ok (.invokevirtual 87, 3) := by decide +kernel
theorem dM_lacks_14 : decode bM_lacks 14 = .ok (.ifCond .eq 7, 3) := by decide +kernel
theorem dM_lacks_17 : decode bM_lacks 17 = .ok (.iconst 0, 1) := by decide +kernel
theorem dM_lacks_18 : decode bM_lacks 18 = .ok (.goto 4, 3) := by decide +kernel
theorem dM_lacks_21 : decode bM_lacks 21 = .ok (.iconst 1, 1) := by decide +kernel
theorem dM_lacks_22 : decode bM_lacks 22 = .ok (.putfield 51, 3) := by decide +kernel
theorem dM_lacks_25 : decode bM_lacks 25 = .ok (.aload_n 0, 1) := by decide +kernel
theorem dM_lacks_26 : decode bM_lacks 26 = .ok (.getfield 51, 3) := by decide +kernel
theorem dM_lacks_29 : decode bM_lacks 29 = .ok (.ifCond .le 5, 3) := by decide +kernel
theorem dM_lacks_32 : decode bM_lacks 32 = .ok (.iconst 0, 1) := by decide +kernel
theorem dM_lacks_33 : decode bM_lacks 33 = .ok (.ireturn, 1) := by decide +kernel
theorem dM_lacks_34 : decode bM_lacks 34 = .ok (.aload_n 0, 1) := by decide +kernel
theorem dM_lacks_35 : decode bM_lacks 35 = .ok (.iload_n 1, 1) := by decide +kernel
theorem dM_lacks_36 : decode bM_lacks 36 = .ok (.iload_n 2, 1) := by decide +kernel
theorem dM_lacks_37 : decode bM_lacks 37 = .ok (.invokevirtual 117, 3) := by decide +kernel
theorem dM_lacks_40 : decode bM_lacks 40 = .ok (.ifCond .ne 5, 3) := by decide +kernel
theorem dM_lacks_43 : decode bM_lacks 43 = .ok (.iconst (-1), 1) := by decide +kernel
theorem dM_lacks_44 : decode bM_lacks 44 = .ok (.ireturn, 1) := by decide +kernel
theorem dM_lacks_45 : decode bM_lacks 45 = .ok (.aload_n 0, 1) := by decide +kernel
theorem dM_lacks_46 : decode bM_lacks 46 = .ok (.iload_n 1, 1) := by decide +kernel
theorem dM_lacks_47 : decode bM_lacks 47 = .ok (.invokevirtual 113, 3) := by decide +kernel
theorem dM_lacks_50 : decode bM_lacks 50 = .ok (.aload_n 0, 1) := by decide +kernel
theorem dM_lacks_51 : decode bM_lacks 51 = .ok (.iload_n 2, 1) := by decide +kernel
theorem dM_lacks_52 : decode bM_lacks 52 = .ok (.invokevirtual 123, 3) := by decide +kernel
theorem dM_lacks_55 : decode bM_lacks 55 = .ok (.ireturn, 1) := by decide +kernel
theorem dM_worst_0 : decode bM_worst 0 = .ok (.aload_n 0, 1) := by decide +kernel
theorem dM_worst_1 : decode bM_worst 1 = .ok (.aload_n 0, 1) := by decide +kernel
theorem dM_worst_2 : decode bM_worst 2 = .ok (.iload_n 1, 1) := by decide +kernel
theorem dM_worst_3 : decode bM_worst 3 = .ok (.invokevirtual 91, 3) := by decide +kernel
theorem dM_worst_6 : decode bM_worst 6 = .ok (.ifCond .eq 7, 3) := by decide +kernel
theorem dM_worst_9 : decode bM_worst 9 = .ok (.iconst 0, 1) := by decide +kernel
theorem dM_worst_10 : decode bM_worst 10 = .ok (.goto 4, 3) := by decide +kernel
theorem dM_worst_13 : decode bM_worst 13 = .ok (.iconst 1, 1) := by decide +kernel
theorem dM_worst_14 : decode bM_worst 14 = .ok (.putfield 51, 3) := by decide +kernel
theorem dM_worst_17 : decode bM_worst 17 = .ok (.aload_n 0, 1) := by decide +kernel
theorem dM_worst_18 : decode bM_worst 18 = .ok (.getfield 51, 3) := by decide +kernel
theorem dM_worst_21 : decode bM_worst 21 = .ok (.ifCond .le 5, 3) := by decide +kernel
theorem dM_worst_24 : decode bM_worst 24 = .ok (.iconst 0, 1) := by decide +kernel
theorem dM_worst_25 : decode bM_worst 25 = .ok (.ireturn, 1) := by decide +kernel
theorem dM_worst_26 : decode bM_worst 26 = .ok (.aload_n 0, 1) := by decide +kernel
theorem dM_worst_27 : decode bM_worst 27 = .ok (.iload_n 1, 1) := by decide +kernel
theorem dM_worst_28 : decode bM_worst 28 = .ok (.invokevirtual 113, 3) := by decide +kernel
theorem dM_worst_31 : decode bM_worst 31 = .ok (.iconst (-1), 1) := by decide +kernel
theorem dM_worst_32 : decode bM_worst 32 = .ok (.istore_n 2, 1) := by decide +kernel
theorem dM_worst_33 : decode bM_worst 33 = .ok (.iconst 0, 1) := by decide +kernel
theorem dM_worst_34 : decode bM_worst 34 = .ok (.istore_n 3, 1) := by decide +kernel
theorem dM_worst_35 : decode bM_worst 35 = .ok (.iload_n 3, 1) := by decide +kernel
theorem dM_worst_36 : decode bM_worst 36 = .ok (.aload_n 0, 1) := by decide +kernel
theorem dM_worst_37 : decode bM_worst 37 = .ok (.getfield 54, 3) := by decide +kernel
theorem dM_worst_40 : decode bM_worst 40 = .ok (.if_icmp .ge 42, 3) := by decide +kernel
theorem dM_worst_43 : decode bM_worst 43 = .ok (.aload_n 0, 1) := by decide +kernel
theorem dM_worst_44 : decode bM_worst 44 = .ok (.iload_n 1, 1) := by decide +kernel
theorem dM_worst_45 : decode bM_worst 45 = .ok (.iload_n 3, 1) := by decide +kernel
theorem dM_worst_46 : decode bM_worst 46 = .ok (.invokevirtual 117, 3) := by decide +kernel
theorem dM_worst_49 : decode bM_worst 49 = .ok (.ifCond .eq 25, 3) := by decide +kernel
theorem dM_worst_52 : decode bM_worst 52 = .ok (.iload_n 2, 1) := by decide +kernel
theorem dM_worst_53 : decode bM_worst 53 = .ok (.iconst (-1), 1) := by decide +kernel
theorem dM_worst_54 : decode bM_worst 54 = .ok (.if_icmp .eq 16, 3) := by decide +kernel
theorem dM_worst_57 : decode bM_worst 57 = .ok (.aload_n 0, 1) := by decide +kernel
theorem dM_worst_58 : decode bM_worst 58 = .ok (.iload_n 3, 1) := by decide +kernel
theorem dM_worst_59 : decode bM_worst 59 = .ok (.invokevirtual 123, 3) := by decide +kernel
theorem dM_worst_62 : decode bM_worst 62 = .ok (.aload_n 0, 1) := by decide +kernel
theorem dM_worst_63 : decode bM_worst 63 = .ok (.iload_n 2, 1) := by decide +kernel
theorem dM_worst_64 : decode bM_worst 64 = .ok (.invokevirtual 123, 3) := by decide +kernel
theorem dM_worst_67 : decode bM_worst 67 = .ok (.if_icmp .le 7, 3) := by decide +kernel
theorem dM_worst_70 : decode bM_worst 70 = .ok (.iload_n 3, 1) := by decide +kernel
theorem dM_worst_71 : decode bM_worst 71 = .ok (.goto 4, 3) := by decide +kernel
theorem dM_worst_74 : decode bM_worst 74 = .ok (.iload_n 2, 1) := by decide +kernel
theorem dM_worst_75 : decode bM_worst 75 = .ok (.istore_n 2, 1) := by decide +kernel
theorem dM_worst_76 : decode bM_worst 76 = .ok (.iinc 3 1, 3) := by decide +kernel
theorem dM_worst_79 : decode bM_worst 79 = .ok (.goto (-44), 3) := by decide +kernel
theorem dM_worst_82 : decode bM_worst 82 = .ok (.iload_n 2, 1) := by decide +kernel
theorem dM_worst_83 : decode bM_worst 83 = .ok (.ireturn, 1) := by decide +kernel

theorem dL_cell_0 : decode bL_cell 0 = .ok (.iload_n 1, 1) := by decide +kernel
theorem dL_cell_1 : decode bL_cell 1 = .ok (.aload_n 0, 1) := by decide +kernel
theorem dL_cell_2 : decode bL_cell 2 = .ok (.arraylength, 1) := by decide +kernel
theorem dL_cell_3 : decode bL_cell 3 = .ok (.if_icmp .ge 9, 3) := by decide +kernel
theorem dL_cell_6 : decode bL_cell 6 = .ok (.aload_n 0, 1) := by decide +kernel
theorem dL_cell_7 : decode bL_cell 7 = .ok (.iload_n 1, 1) := by decide +kernel
theorem dL_cell_8 : decode bL_cell 8 = .ok (.iaload, 1) := by decide +kernel
theorem dL_cell_9 : decode bL_cell 9 = .ok (.goto 4, 3) := by decide +kernel
theorem dL_cell_12 : decode bL_cell 12 = .ok (.iconst 0, 1) := by decide +kernel
theorem dL_cell_13 : decode bL_cell 13 = .ok (.ireturn, 1) := by decide +kernel
theorem dL_wall_0 : decode bL_wall 0 = .ok (.aload 4, 2) := by decide +kernel
theorem dL_wall_2 : decode bL_wall 2 = .ok (.iconst 0, 1) := by decide +kernel
theorem dL_wall_3 : decode bL_wall 3 = .ok (.aload_n 0, 1) := by decide +kernel
theorem dL_wall_4 : decode bL_wall 4 = .ok (.iload_n 1, 1) := by decide +kernel
theorem dL_wall_5 : decode bL_wall 5 = .ok (.iload_n 2, 1) := by decide +kernel
theorem dL_wall_6 : decode bL_wall 6 = .ok (.iload_n 3, 1) := by decide +kernel
theorem dL_wall_7 : decode bL_wall 7 = .ok (.invokevirtual 7, 3) := by decide +kernel
theorem dL_wall_10 : decode bL_wall 10 = .ok (.ifCond .eq 7, 3) := by decide +kernel
theorem dL_wall_13 : decode bL_wall 13 = .ok (.lconst 1, 1) := by decide +kernel
theorem dL_wall_14 : decode bL_wall 14 = .ok (.goto 4, 3) := by decide +kernel
theorem dL_wall_17 : decode bL_wall 17 = .ok (.lconst 0, 1) := by decide +kernel
theorem dL_wall_18 : decode bL_wall 18 = .ok (.lastore, 1) := by decide +kernel
theorem dL_wall_19 : decode bL_wall 19 = .ok (.goto 7, 3) := by decide +kernel
theorem dL_wall_22 : decode bL_wall 22 = .ok (.astore 5, 2) := by decide +kernel
theorem dL_wall_24 : decode bL_wall 24 = .ok (.iconst 1, 1) := by decide +kernel
theorem dL_wall_25 : decode bL_wall 25 = .ok (.ireturn, 1) := by decide +kernel
theorem dL_wall_26 : decode bL_wall 26 = .ok (.iconst 0, 1) := by decide +kernel
theorem dL_wall_27 : decode bL_wall 27 = .ok (.ireturn, 1) := by decide +kernel
theorem dL_reach_0 : decode bL_reach 0 = .ok (.aload_n 2, 1) := by decide +kernel
theorem dL_reach_1 : decode bL_reach 1 = .ok (.iconst 0, 1) := by decide +kernel
theorem dL_reach_2 : decode bL_reach 2 = .ok (.aload_n 0, 1) := by decide +kernel
theorem dL_reach_3 : decode bL_reach 3 = .ok (.iload_n 1, 1) := by decide +kernel
theorem dL_reach_4 : decode bL_reach 4 = .ok (.invokevirtual 15, 3) := by decide +kernel
theorem dL_reach_7 : decode bL_reach 7 = .ok (.i2l, 1) := by decide +kernel
theorem dL_reach_8 : decode bL_reach 8 = .ok (.lastore, 1) := by decide +kernel
theorem dL_reach_9 : decode bL_reach 9 = .ok (.goto 6, 3) := by decide +kernel
theorem dL_reach_12 : decode bL_reach 12 = .ok (.astore_n 3, 1) := by decide +kernel
theorem dL_reach_13 : decode bL_reach 13 = .ok (.iconst 1, 1) := by decide +kernel
theorem dL_reach_14 : decode bL_reach 14 = .ok (.ireturn, 1) := by decide +kernel
theorem dL_reach_15 : decode bL_reach 15 = .ok (.iconst 0, 1) := by decide +kernel
theorem dL_reach_16 : decode bL_reach 16 = .ok (.ireturn, 1) := by decide +kernel
theorem dL_place_0 : decode bL_place 0 = .ok (.aload_n 3, 1) := by decide +kernel
theorem dL_place_1 : decode bL_place 1 = .ok (.iconst 0, 1) := by decide +kernel
theorem dL_place_2 : decode bL_place 2 = .ok (.aload_n 0, 1) := by decide +kernel
theorem dL_place_3 : decode bL_place 3 = .ok (.iload_n 1, 1) := by decide +kernel
theorem dL_place_4 : decode bL_place 4 = .ok (.iload_n 2, 1) := by decide +kernel
theorem dL_place_5 : decode bL_place 5 = .ok (.invokevirtual 19, 3) := by decide +kernel
theorem dL_place_8 : decode bL_place 8 = .ok (.i2l, 1) := by decide +kernel
theorem dL_place_9 : decode bL_place 9 = .ok (.lastore, 1) := by decide +kernel
theorem dL_place_10 : decode bL_place 10 = .ok (.goto 11, 3) := by decide +kernel
theorem dL_place_13 : decode bL_place 13 = .ok (.astore 4, 2) := by decide +kernel
theorem dL_place_15 : decode bL_place 15 = .ok (.iconst 1, 1) := by decide +kernel
theorem dL_place_16 : decode bL_place 16 = .ok (.ireturn, 1) := by decide +kernel
theorem dL_place_17 : decode bL_place 17 = .ok (.astore 4, 2) := by decide +kernel
theorem dL_place_19 : decode bL_place 19 = .ok (.iconst 2, 1) := by decide +kernel
theorem dL_place_20 : decode bL_place 20 = .ok (.ireturn, 1) := by decide +kernel
theorem dL_place_21 : decode bL_place 21 = .ok (.iconst 0, 1) := by decide +kernel
theorem dL_place_22 : decode bL_place 22 = .ok (.ireturn, 1) := by decide +kernel
theorem dL_seen_0 : decode bL_seen 0 = .ok (.aload 5, 2) := by decide +kernel
theorem dL_seen_2 : decode bL_seen 2 = .ok (.iconst 0, 1) := by decide +kernel
theorem dL_seen_3 : decode bL_seen 3 = .ok (.aload_n 0, 1) := by decide +kernel
theorem dL_seen_4 : decode bL_seen 4 = .ok (.iload_n 1, 1) := by decide +kernel
theorem dL_seen_5 : decode bL_seen 5 = .ok (.iload_n 2, 1) := by decide +kernel
theorem dL_seen_6 : decode bL_seen 6 = .ok (.iload_n 3, 1) := by decide +kernel
theorem dL_seen_7 : decode bL_seen 7 = .ok (.iload 4, 2) := by decide +kernel
theorem dL_seen_9 : decode bL_seen 9 = .ok (.invokevirtual 25, 3) := by decide +kernel
theorem dL_seen_12 : decode bL_seen 12 = .ok (.ifCond .eq 7, 3) := by decide +kernel
theorem dL_seen_15 : decode bL_seen 15 = .ok (.lconst 1, 1) := by decide +kernel
theorem dL_seen_16 : decode bL_seen 16 = .ok (.goto 4, 3) := by decide +kernel
theorem dL_seen_19 : decode bL_seen 19 = .ok (.lconst 0, 1) := by decide +kernel
theorem dL_seen_20 : decode bL_seen 20 = .ok (.lastore, 1) := by decide +kernel
theorem dL_seen_21 : decode bL_seen 21 = .ok (.goto 7, 3) := by decide +kernel
theorem dL_seen_24 : decode bL_seen 24 = .ok (.astore 6, 2) := by decide +kernel
theorem dL_seen_26 : decode bL_seen 26 = .ok (.iconst 1, 1) := by decide +kernel
theorem dL_seen_27 : decode bL_seen 27 = .ok (.ireturn, 1) := by decide +kernel
theorem dL_seen_28 : decode bL_seen 28 = .ok (.iconst 0, 1) := by decide +kernel
theorem dL_seen_29 : decode bL_seen 29 = .ok (.ireturn, 1) := by decide +kernel
theorem dL_reached_0 : decode bL_reached 0 = .ok (.aload_n 2, 1) := by decide +kernel
theorem dL_reached_1 : decode bL_reached 1 = .ok (.iconst 0, 1) := by decide +kernel
theorem dL_reached_2 : decode bL_reached 2 = .ok (.aload_n 0, 1) := by decide +kernel
theorem dL_reached_3 : decode bL_reached 3 = .ok (.iload_n 1, 1) := by decide +kernel
theorem dL_reached_4 : decode bL_reached 4 = .ok (.invokevirtual 29, 3) := by decide +kernel
theorem dL_reached_7 : decode bL_reached 7 = .ok (.i2l, 1) := by decide +kernel
theorem dL_reached_8 : decode bL_reached 8 = .ok (.lastore, 1) := by decide +kernel
theorem dL_reached_9 : decode bL_reached 9 = .ok (.goto 6, 3) := by decide +kernel
theorem dL_reached_12 : decode bL_reached 12 = .ok (.astore_n 3, 1) := by decide +kernel
theorem dL_reached_13 : decode bL_reached 13 = .ok (.iconst 1, 1) := by decide +kernel
theorem dL_reached_14 : decode bL_reached 14 = .ok (.ireturn, 1) := by decide +kernel
theorem dL_reached_15 : decode bL_reached 15 = .ok (.iconst 0, 1) := by decide +kernel
theorem dL_reached_16 : decode bL_reached 16 = .ok (.ireturn, 1) := by decide +kernel
theorem dL_left_0 : decode bL_left 0 = .ok (.aload_n 2, 1) := by decide +kernel
theorem dL_left_1 : decode bL_left 1 = .ok (.iconst 0, 1) := by decide +kernel
theorem dL_left_2 : decode bL_left 2 = .ok (.aload_n 0, 1) := by decide +kernel
theorem dL_left_3 : decode bL_left 3 = .ok (.iload_n 1, 1) := by decide +kernel
theorem dL_left_4 : decode bL_left 4 = .ok (.invokevirtual 32, 3) := by decide +kernel
theorem dL_left_7 : decode bL_left 7 = .ok (.i2l, 1) := by decide +kernel
theorem dL_left_8 : decode bL_left 8 = .ok (.lastore, 1) := by decide +kernel
theorem dL_left_9 : decode bL_left 9 = .ok (.goto 6, 3) := by decide +kernel
theorem dL_left_12 : decode bL_left 12 = .ok (.astore_n 3, 1) := by decide +kernel
theorem dL_left_13 : decode bL_left 13 = .ok (.iconst 1, 1) := by decide +kernel
theorem dL_left_14 : decode bL_left 14 = .ok (.ireturn, 1) := by decide +kernel
theorem dL_left_15 : decode bL_left 15 = .ok (.iconst 0, 1) := by decide +kernel
theorem dL_left_16 : decode bL_left 16 = .ok (.ireturn, 1) := by decide +kernel
theorem dL_dry_0 : decode bL_dry 0 = .ok (.aload_n 3, 1) := by decide +kernel
theorem dL_dry_1 : decode bL_dry 1 = .ok (.iconst 0, 1) := by decide +kernel
theorem dL_dry_2 : decode bL_dry 2 = .ok (.aload_n 0, 1) := by decide +kernel
theorem dL_dry_3 : decode bL_dry 3 = .ok (.iload_n 1, 1) := by decide +kernel
theorem dL_dry_4 : decode bL_dry 4 = .ok (.iload_n 2, 1) := by decide +kernel
theorem dL_dry_5 : decode bL_dry 5 = .ok (.invokevirtual 35, 3) := by decide +kernel
theorem dL_dry_8 : decode bL_dry 8 = .ok (.i2l, 1) := by decide +kernel
theorem dL_dry_9 : decode bL_dry 9 = .ok (.lastore, 1) := by decide +kernel
theorem dL_dry_10 : decode bL_dry 10 = .ok (.goto 7, 3) := by decide +kernel
theorem dL_dry_13 : decode bL_dry 13 = .ok (.astore 4, 2) := by decide +kernel
theorem dL_dry_15 : decode bL_dry 15 = .ok (.iconst 1, 1) := by decide +kernel
theorem dL_dry_16 : decode bL_dry 16 = .ok (.ireturn, 1) := by decide +kernel
theorem dL_dry_17 : decode bL_dry 17 = .ok (.iconst 0, 1) := by decide +kernel
theorem dL_dry_18 : decode bL_dry 18 = .ok (.ireturn, 1) := by decide +kernel
theorem dL_size_0 : decode bL_size 0 = .ok (.aload_n 3, 1) := by decide +kernel
theorem dL_size_1 : decode bL_size 1 = .ok (.iconst 0, 1) := by decide +kernel
theorem dL_size_2 : decode bL_size 2 = .ok (.aload_n 0, 1) := by decide +kernel
theorem dL_size_3 : decode bL_size 3 = .ok (.iload_n 1, 1) := by decide +kernel
theorem dL_size_4 : decode bL_size 4 = .ok (.iload_n 2, 1) := by decide +kernel
theorem dL_size_5 : decode bL_size 5 = .ok (.invokevirtual 38, 3) := by decide +kernel
theorem dL_size_8 : decode bL_size 8 = .ok (.i2l, 1) := by decide +kernel
theorem dL_size_9 : decode bL_size 9 = .ok (.lastore, 1) := by decide +kernel
theorem dL_size_10 : decode bL_size 10 = .ok (.goto 7, 3) := by decide +kernel
theorem dL_size_13 : decode bL_size 13 = .ok (.astore 4, 2) := by decide +kernel
theorem dL_size_15 : decode bL_size 15 = .ok (.iconst 1, 1) := by decide +kernel
theorem dL_size_16 : decode bL_size 16 = .ok (.ireturn, 1) := by decide +kernel
theorem dL_size_17 : decode bL_size 17 = .ok (.iconst 0, 1) := by decide +kernel
theorem dL_size_18 : decode bL_size 18 = .ok (.ireturn, 1) := by decide +kernel
theorem dL_pipes_0 : decode bL_pipes 0 = .ok (.aload_n 2, 1) := by decide +kernel
theorem dL_pipes_1 : decode bL_pipes 1 = .ok (.iconst 0, 1) := by decide +kernel
theorem dL_pipes_2 : decode bL_pipes 2 = .ok (.aload_n 0, 1) := by decide +kernel
theorem dL_pipes_3 : decode bL_pipes 3 = .ok (.iload_n 1, 1) := by decide +kernel
theorem dL_pipes_4 : decode bL_pipes 4 = .ok (.invokevirtual 41, 3) := by decide +kernel
theorem dL_pipes_7 : decode bL_pipes 7 = .ok (.i2l, 1) := by decide +kernel
theorem dL_pipes_8 : decode bL_pipes 8 = .ok (.lastore, 1) := by decide +kernel
theorem dL_pipes_9 : decode bL_pipes 9 = .ok (.goto 6, 3) := by decide +kernel
theorem dL_pipes_12 : decode bL_pipes 12 = .ok (.astore_n 3, 1) := by decide +kernel
theorem dL_pipes_13 : decode bL_pipes 13 = .ok (.iconst 1, 1) := by decide +kernel
theorem dL_pipes_14 : decode bL_pipes 14 = .ok (.ireturn, 1) := by decide +kernel
theorem dL_pipes_15 : decode bL_pipes 15 = .ok (.iconst 0, 1) := by decide +kernel
theorem dL_pipes_16 : decode bL_pipes 16 = .ok (.ireturn, 1) := by decide +kernel
theorem dL_pipe_0 : decode bL_pipe 0 = .ok (.aload 4, 2) := by decide +kernel
theorem dL_pipe_2 : decode bL_pipe 2 = .ok (.iconst 0, 1) := by decide +kernel
theorem dL_pipe_3 : decode bL_pipe 3 = .ok (.aload_n 0, 1) := by decide +kernel
theorem dL_pipe_4 : decode bL_pipe 4 = .ok (.iload_n 1, 1) := by decide +kernel
theorem dL_pipe_5 : decode bL_pipe 5 = .ok (.iload_n 2, 1) := by decide +kernel
theorem dL_pipe_6 : decode bL_pipe 6 = .ok (.iload_n 3, 1) := by decide +kernel
theorem dL_pipe_7 : decode bL_pipe 7 = .ok (.invokevirtual 44, 3) := by decide +kernel
theorem dL_pipe_10 : decode bL_pipe 10 = .ok (.i2l, 1) := by decide +kernel
theorem dL_pipe_11 : decode bL_pipe 11 = .ok (.lastore, 1) := by decide +kernel
theorem dL_pipe_12 : decode bL_pipe 12 = .ok (.goto 7, 3) := by decide +kernel
theorem dL_pipe_15 : decode bL_pipe 15 = .ok (.astore 5, 2) := by decide +kernel
theorem dL_pipe_17 : decode bL_pipe 17 = .ok (.iconst 1, 1) := by decide +kernel
theorem dL_pipe_18 : decode bL_pipe 18 = .ok (.ireturn, 1) := by decide +kernel
theorem dL_pipe_19 : decode bL_pipe 19 = .ok (.iconst 0, 1) := by decide +kernel
theorem dL_pipe_20 : decode bL_pipe 20 = .ok (.ireturn, 1) := by decide +kernel
theorem dL_lacks_0 : decode bL_lacks 0 = .ok (.aload_n 3, 1) := by decide +kernel
theorem dL_lacks_1 : decode bL_lacks 1 = .ok (.iconst 0, 1) := by decide +kernel
theorem dL_lacks_2 : decode bL_lacks 2 = .ok (.aload_n 0, 1) := by decide +kernel
theorem dL_lacks_3 : decode bL_lacks 3 = .ok (.iload_n 1, 1) := by decide +kernel
theorem dL_lacks_4 : decode bL_lacks 4 = .ok (.iload_n 2, 1) := by decide +kernel
theorem dL_lacks_5 : decode bL_lacks 5 = .ok (.invokevirtual 48, 3) := by decide +kernel
theorem dL_lacks_8 : decode bL_lacks 8 = .ok (.i2l, 1) := by decide +kernel
theorem dL_lacks_9 : decode bL_lacks 9 = .ok (.lastore, 1) := by decide +kernel
theorem dL_lacks_10 : decode bL_lacks 10 = .ok (.goto 7, 3) := by decide +kernel
theorem dL_lacks_13 : decode bL_lacks 13 = .ok (.astore 4, 2) := by decide +kernel
theorem dL_lacks_15 : decode bL_lacks 15 = .ok (.iconst 1, 1) := by decide +kernel
theorem dL_lacks_16 : decode bL_lacks 16 = .ok (.ireturn, 1) := by decide +kernel
theorem dL_lacks_17 : decode bL_lacks 17 = .ok (.iconst 0, 1) := by decide +kernel
theorem dL_lacks_18 : decode bL_lacks 18 = .ok (.ireturn, 1) := by decide +kernel
theorem dL_worst_0 : decode bL_worst 0 = .ok (.aload_n 2, 1) := by decide +kernel
theorem dL_worst_1 : decode bL_worst 1 = .ok (.iconst 0, 1) := by decide +kernel
theorem dL_worst_2 : decode bL_worst 2 = .ok (.aload_n 0, 1) := by decide +kernel
theorem dL_worst_3 : decode bL_worst 3 = .ok (.iload_n 1, 1) := by decide +kernel
theorem dL_worst_4 : decode bL_worst 4 = .ok (.invokevirtual 51, 3) := by decide +kernel
theorem dL_worst_7 : decode bL_worst 7 = .ok (.i2l, 1) := by decide +kernel
theorem dL_worst_8 : decode bL_worst 8 = .ok (.lastore, 1) := by decide +kernel
theorem dL_worst_9 : decode bL_worst 9 = .ok (.goto 6, 3) := by decide +kernel
theorem dL_worst_12 : decode bL_worst 12 = .ok (.astore_n 3, 1) := by decide +kernel
theorem dL_worst_13 : decode bL_worst 13 = .ok (.iconst 1, 1) := by decide +kernel
theorem dL_worst_14 : decode bL_worst 14 = .ok (.ireturn, 1) := by decide +kernel
theorem dL_worst_15 : decode bL_worst 15 = .ok (.iconst 0, 1) := by decide +kernel
theorem dL_worst_16 : decode bL_worst 16 = .ok (.ireturn, 1) := by decide +kernel
theorem dL_law_0 : decode bL_law 0 = .ok (.new 8, 3) := by decide +kernel
theorem dL_law_3 : decode bL_law 3 = .ok (.dup, 1) := by decide +kernel
theorem dL_law_4 : decode bL_law 4 = .ok (.aload_n 0, 1) := by decide +kernel
theorem dL_law_5 : decode bL_law 5 = .ok (.iconst 0, 1) := by decide +kernel
theorem dL_law_6 : decode bL_law 6 = .ok (.invokestatic 54, 3) := by decide +kernel
theorem dL_law_9 : decode bL_law 9 = .ok (.aload_n 0, 1) := by decide +kernel
theorem dL_law_10 : decode bL_law 10 = .ok (.iconst 1, 1) := by decide +kernel
theorem dL_law_11 : decode bL_law 11 = .ok (.invokestatic 54, 3) := by decide +kernel
theorem dL_law_14 : decode bL_law 14 = .ok (.invokespecial 60, 3) := by decide +kernel
theorem dL_law_17 : decode bL_law 17 = .ok (.astore_n 1, 1) := by decide +kernel
theorem dL_law_18 : decode bL_law 18 = .ok (.new 63, 3) := by decide +kernel
theorem dL_law_21 : decode bL_law 21 = .ok (.dup, 1) := by decide +kernel
theorem dL_law_22 : decode bL_law 22 = .ok (.aload_n 0, 1) := by decide +kernel
theorem dL_law_23 : decode bL_law 23 = .ok (.iconst 0, 1) := by decide +kernel
theorem dL_law_24 : decode bL_law 24 = .ok (.invokestatic 54, 3) := by decide +kernel
theorem dL_law_27 : decode bL_law 27 = .ok (.aload_n 0, 1) := by decide +kernel
theorem dL_law_28 : decode bL_law 28 = .ok (.iconst 1, 1) := by decide +kernel
theorem dL_law_29 : decode bL_law 29 = .ok (.invokestatic 54, 3) := by decide +kernel
theorem dL_law_32 : decode bL_law 32 = .ok (.invokespecial 65, 3) := by decide +kernel
theorem dL_law_35 : decode bL_law 35 = .ok (.astore_n 2, 1) := by decide +kernel
theorem dL_law_36 : decode bL_law 36 = .ok (.iconst 1, 1) := by decide +kernel
theorem dL_law_37 : decode bL_law 37 = .ok (.newarray .long, 2) := by decide +kernel
theorem dL_law_39 : decode bL_law 39 = .ok (.astore_n 3, 1) := by decide +kernel
theorem dL_law_40 : decode bL_law 40 = .ok (.iconst 2, 1) := by decide +kernel
theorem dL_law_41 : decode bL_law 41 = .ok (.istore 4, 2) := by decide +kernel
theorem dL_law_43 : decode bL_law 43 = .ok (.iload 4, 2) := by decide +kernel
theorem dL_law_45 : decode bL_law 45 = .ok (.aload_n 0, 1) := by decide +kernel
theorem dL_law_46 : decode bL_law 46 = .ok (.arraylength, 1) := by decide +kernel
theorem dL_law_47 : decode bL_law 47 = .ok (.iconst 5, 1) := by decide +kernel
theorem dL_law_48 : decode bL_law 48 = .ok (.isub, 1) := by decide +kernel
theorem dL_law_49 : decode bL_law 49 = .ok (.if_icmp .gt 928, 3) := by decide +kernel
theorem dL_law_52 : decode bL_law 52 = .ok (.aload_n 0, 1) := by decide +kernel
theorem dL_law_53 : decode bL_law 53 = .ok (.iload 4, 2) := by decide +kernel
theorem dL_law_55 : decode bL_law 55 = .ok (.iaload, 1) := by decide +kernel
theorem dL_law_56 : decode bL_law 56 = .ok (.bipush 15, 2) := by decide +kernel
theorem dL_law_58 : decode bL_law 58 = .ok (.iand, 1) := by decide +kernel
theorem dL_law_59 : decode bL_law 59 = .ok (.tableswitch 912 0 12 #[65, 168, 224, 292, 391, 447, 503, 571, 584, 652, 708, 788, 856], 65) := by decide +kernel
theorem dL_law_124 : decode bL_law 124 = .ok (.aload_n 1, 1) := by decide +kernel
theorem dL_law_125 : decode bL_law 125 = .ok (.aload_n 0, 1) := by decide +kernel
theorem dL_law_126 : decode bL_law 126 = .ok (.iload 4, 2) := by decide +kernel
theorem dL_law_128 : decode bL_law 128 = .ok (.iconst 1, 1) := by decide +kernel
theorem dL_law_129 : decode bL_law 129 = .ok (.iadd, 1) := by decide +kernel
theorem dL_law_130 : decode bL_law 130 = .ok (.iaload, 1) := by decide +kernel
theorem dL_law_131 : decode bL_law 131 = .ok (.aload_n 0, 1) := by decide +kernel
theorem dL_law_132 : decode bL_law 132 = .ok (.iload 4, 2) := by decide +kernel
theorem dL_law_134 : decode bL_law 134 = .ok (.iconst 2, 1) := by decide +kernel
theorem dL_law_135 : decode bL_law 135 = .ok (.iadd, 1) := by decide +kernel
theorem dL_law_136 : decode bL_law 136 = .ok (.iaload, 1) := by decide +kernel
theorem dL_law_137 : decode bL_law 137 = .ok (.aload_n 0, 1) := by decide +kernel
theorem dL_law_138 : decode bL_law 138 = .ok (.iload 4, 2) := by decide +kernel
theorem dL_law_140 : decode bL_law 140 = .ok (.iconst 3, 1) := by decide +kernel
theorem dL_law_141 : decode bL_law 141 = .ok (.iadd, 1) := by decide +kernel
theorem dL_law_142 : decode bL_law 142 = .ok (.iaload, 1) := by decide +kernel
theorem dL_law_143 : decode bL_law 143 = .ok (.ifCond .eq 7, 3) := by decide +kernel
theorem dL_law_146 : decode bL_law 146 = .ok (.iconst 1, 1) := by decide +kernel
theorem dL_law_147 : decode bL_law 147 = .ok (.goto 4, 3) := by decide +kernel
theorem dL_law_150 : decode bL_law 150 = .ok (.iconst 0, 1) := by decide +kernel
theorem dL_law_151 : decode bL_law 151 = .ok (.aload_n 3, 1) := by decide +kernel
theorem dL_law_152 : decode bL_law 152 = .ok (.invokestatic 66, 3) := by decide +kernel
theorem dL_law_155 : decode bL_law 155 = .ok (.istore 5, 2) := by decide +kernel
theorem dL_law_157 : decode bL_law 157 = .ok (.aload_n 2, 1) := by decide +kernel
theorem dL_law_158 : decode bL_law 158 = .ok (.aload_n 0, 1) := by decide +kernel
theorem dL_law_159 : decode bL_law 159 = .ok (.iload 4, 2) := by decide +kernel
theorem dL_law_161 : decode bL_law 161 = .ok (.iconst 1, 1) := by decide +kernel
theorem dL_law_162 : decode bL_law 162 = .ok (.iadd, 1) := by decide +kernel
theorem dL_law_163 : decode bL_law 163 = .ok (.iaload, 1) := by decide +kernel
theorem dL_law_164 : decode bL_law 164 = .ok (.aload_n 0, 1) := by decide +kernel
theorem dL_law_165 : decode bL_law 165 = .ok (.iload 4, 2) := by decide +kernel
theorem dL_law_167 : decode bL_law 167 = .ok (.iconst 2, 1) := by decide +kernel
theorem dL_law_168 : decode bL_law 168 = .ok (.iadd, 1) := by decide +kernel
theorem dL_law_169 : decode bL_law 169 = .ok (.iaload, 1) := by decide +kernel
theorem dL_law_170 : decode bL_law 170 = .ok (.aload_n 0, 1) := by decide +kernel
theorem dL_law_171 : decode bL_law 171 = .ok (.iload 4, 2) := by decide +kernel
theorem dL_law_173 : decode bL_law 173 = .ok (.iconst 3, 1) := by decide +kernel
theorem dL_law_174 : decode bL_law 174 = .ok (.iadd, 1) := by decide +kernel
theorem dL_law_175 : decode bL_law 175 = .ok (.iaload, 1) := by decide +kernel
theorem dL_law_176 : decode bL_law 176 = .ok (.ifCond .eq 7, 3) := by decide +kernel
theorem dL_law_179 : decode bL_law 179 = .ok (.iconst 1, 1) := by decide +kernel
theorem dL_law_180 : decode bL_law 180 = .ok (.goto 4, 3) := by decide +kernel
theorem dL_law_183 : decode bL_law 183 = .ok (.iconst 0, 1) := by decide +kernel
theorem dL_law_184 : decode bL_law 184 = .ok (.invokevirtual 69, 3) := by decide +kernel
theorem dL_law_187 : decode bL_law 187 = .ok (.istore 6, 2) := by decide +kernel
theorem dL_law_189 : decode bL_law 189 = .ok (.aload_n 2, 1) := by decide +kernel
theorem dL_law_190 : decode bL_law 190 = .ok (.invokevirtual 70, 3) := by decide +kernel
theorem dL_law_193 : decode bL_law 193 = .ok (.iload 5, 2) := by decide +kernel
theorem dL_law_195 : decode bL_law 195 = .ok (.if_icmp .eq 5, 3) := by decide +kernel
theorem dL_law_198 : decode bL_law 198 = .ok (.iconst 0, 1) := by decide +kernel
theorem dL_law_199 : decode bL_law 199 = .ok (.ireturn, 1) := by decide +kernel
theorem dL_law_200 : decode bL_law 200 = .ok (.iload 5, 2) := by decide +kernel
theorem dL_law_202 : decode bL_law 202 = .ok (.ifCond .ne 22, 3) := by decide +kernel
theorem dL_law_205 : decode bL_law 205 = .ok (.aload_n 3, 1) := by decide +kernel
theorem dL_law_206 : decode bL_law 206 = .ok (.iconst 0, 1) := by decide +kernel
theorem dL_law_207 : decode bL_law 207 = .ok (.laload, 1) := by decide +kernel
theorem dL_law_208 : decode bL_law 208 = .ok (.iload 6, 2) := by decide +kernel
theorem dL_law_210 : decode bL_law 210 = .ok (.ifCond .eq 7, 3) := by decide +kernel
theorem dL_law_213 : decode bL_law 213 = .ok (.lconst 1, 1) := by decide +kernel
theorem dL_law_214 : decode bL_law 214 = .ok (.goto 4, 3) := by decide +kernel
theorem dL_law_217 : decode bL_law 217 = .ok (.lconst 0, 1) := by decide +kernel
theorem dL_law_218 : decode bL_law 218 = .ok (.lcmp, 1) := by decide +kernel
theorem dL_law_219 : decode bL_law 219 = .ok (.ifCond .eq 5, 3) := by decide +kernel
theorem dL_law_222 : decode bL_law 222 = .ok (.iconst 0, 1) := by decide +kernel
theorem dL_law_223 : decode bL_law 223 = .ok (.ireturn, 1) := by decide +kernel
theorem dL_law_224 : decode bL_law 224 = .ok (.goto 747, 3) := by decide +kernel
theorem dL_law_227 : decode bL_law 227 = .ok (.aload_n 1, 1) := by decide +kernel
theorem dL_law_228 : decode bL_law 228 = .ok (.aload_n 0, 1) := by decide +kernel
theorem dL_law_229 : decode bL_law 229 = .ok (.iload 4, 2) := by decide +kernel
theorem dL_law_231 : decode bL_law 231 = .ok (.iconst 1, 1) := by decide +kernel
theorem dL_law_232 : decode bL_law 232 = .ok (.iadd, 1) := by decide +kernel
theorem dL_law_233 : decode bL_law 233 = .ok (.iaload, 1) := by decide +kernel
theorem dL_law_234 : decode bL_law 234 = .ok (.aload_n 3, 1) := by decide +kernel
theorem dL_law_235 : decode bL_law 235 = .ok (.invokestatic 74, 3) := by decide +kernel
theorem dL_law_238 : decode bL_law 238 = .ok (.istore 5, 2) := by decide +kernel
theorem dL_law_240 : decode bL_law 240 = .ok (.aload_n 2, 1) := by decide +kernel
theorem dL_law_241 : decode bL_law 241 = .ok (.aload_n 0, 1) := by decide +kernel
theorem dL_law_242 : decode bL_law 242 = .ok (.iload 4, 2) := by decide +kernel
theorem dL_law_244 : decode bL_law 244 = .ok (.iconst 1, 1) := by decide +kernel
theorem dL_law_245 : decode bL_law 245 = .ok (.iadd, 1) := by decide +kernel
theorem dL_law_246 : decode bL_law 246 = .ok (.iaload, 1) := by decide +kernel
theorem dL_law_247 : decode bL_law 247 = .ok (.invokevirtual 77, 3) := by decide +kernel
theorem dL_law_250 : decode bL_law 250 = .ok (.istore 6, 2) := by decide +kernel
theorem dL_law_252 : decode bL_law 252 = .ok (.aload_n 2, 1) := by decide +kernel
theorem dL_law_253 : decode bL_law 253 = .ok (.invokevirtual 70, 3) := by decide +kernel
theorem dL_law_256 : decode bL_law 256 = .ok (.iload 5, 2) := by decide +kernel
theorem dL_law_258 : decode bL_law 258 = .ok (.if_icmp .eq 5, 3) := by decide +kernel
theorem dL_law_261 : decode bL_law 261 = .ok (.iconst 0, 1) := by decide +kernel
theorem dL_law_262 : decode bL_law 262 = .ok (.ireturn, 1) := by decide +kernel
theorem dL_law_263 : decode bL_law 263 = .ok (.iload 5, 2) := by decide +kernel
theorem dL_law_265 : decode bL_law 265 = .ok (.ifCond .ne 15, 3) := by decide +kernel
theorem dL_law_268 : decode bL_law 268 = .ok (.aload_n 3, 1) := by decide +kernel
theorem dL_law_269 : decode bL_law 269 = .ok (.iconst 0, 1) := by decide +kernel
theorem dL_law_270 : decode bL_law 270 = .ok (.laload, 1) := by decide +kernel
theorem dL_law_271 : decode bL_law 271 = .ok (.iload 6, 2) := by decide +kernel
theorem dL_law_273 : decode bL_law 273 = .ok (.i2l, 1) := by decide +kernel
theorem dL_law_274 : decode bL_law 274 = .ok (.lcmp, 1) := by decide +kernel
theorem dL_law_275 : decode bL_law 275 = .ok (.ifCond .eq 5, 3) := by decide +kernel
theorem dL_law_278 : decode bL_law 278 = .ok (.iconst 0, 1) := by decide +kernel
theorem dL_law_279 : decode bL_law 279 = .ok (.ireturn, 1) := by decide +kernel
theorem dL_law_280 : decode bL_law 280 = .ok (.goto 691, 3) := by decide +kernel
theorem dL_law_283 : decode bL_law 283 = .ok (.aload_n 1, 1) := by decide +kernel
theorem dL_law_284 : decode bL_law 284 = .ok (.aload_n 0, 1) := by decide +kernel
theorem dL_law_285 : decode bL_law 285 = .ok (.iload 4, 2) := by decide +kernel
theorem dL_law_287 : decode bL_law 287 = .ok (.iconst 1, 1) := by decide +kernel
theorem dL_law_288 : decode bL_law 288 = .ok (.iadd, 1) := by decide +kernel
theorem dL_law_289 : decode bL_law 289 = .ok (.iaload, 1) := by decide +kernel
theorem dL_law_290 : decode bL_law 290 = .ok (.aload_n 0, 1) := by decide +kernel
theorem dL_law_291 : decode bL_law 291 = .ok (.iload 4, 2) := by decide +kernel
theorem dL_law_293 : decode bL_law 293 = .ok (.iconst 2, 1) := by decide +kernel
theorem dL_law_294 : decode bL_law 294 = .ok (.iadd, 1) := by decide +kernel
theorem dL_law_295 : decode bL_law 295 = .ok (.iaload, 1) := by decide +kernel
theorem dL_law_296 : decode bL_law 296 = .ok (.aload_n 3, 1) := by decide +kernel
theorem dL_law_297 : decode bL_law 297 = .ok (.invokestatic 78, 3) := by decide +kernel
theorem dL_law_300 : decode bL_law 300 = .ok (.istore 5, 2) := by decide +kernel
theorem dL_law_302 : decode bL_law 302 = .ok (.aload_n 2, 1) := by decide +kernel
theorem dL_law_303 : decode bL_law 303 = .ok (.aload_n 0, 1) := by decide +kernel
theorem dL_law_304 : decode bL_law 304 = .ok (.iload 4, 2) := by decide +kernel
theorem dL_law_306 : decode bL_law 306 = .ok (.iconst 1, 1) := by decide +kernel
theorem dL_law_307 : decode bL_law 307 = .ok (.iadd, 1) := by decide +kernel
theorem dL_law_308 : decode bL_law 308 = .ok (.iaload, 1) := by decide +kernel
theorem dL_law_309 : decode bL_law 309 = .ok (.aload_n 0, 1) := by decide +kernel
theorem dL_law_310 : decode bL_law 310 = .ok (.iload 4, 2) := by decide +kernel
theorem dL_law_312 : decode bL_law 312 = .ok (.iconst 2, 1) := by decide +kernel
theorem dL_law_313 : decode bL_law 313 = .ok (.iadd, 1) := by decide +kernel
theorem dL_law_314 : decode bL_law 314 = .ok (.iaload, 1) := by decide +kernel
theorem dL_law_315 : decode bL_law 315 = .ok (.invokevirtual 81, 3) := by decide +kernel
theorem dL_law_318 : decode bL_law 318 = .ok (.istore 6, 2) := by decide +kernel
theorem dL_law_320 : decode bL_law 320 = .ok (.aload_n 2, 1) := by decide +kernel
theorem dL_law_321 : decode bL_law 321 = .ok (.invokevirtual 70, 3) := by decide +kernel
theorem dL_law_324 : decode bL_law 324 = .ok (.iload 5, 2) := by decide +kernel
theorem dL_law_326 : decode bL_law 326 = .ok (.if_icmp .eq 5, 3) := by decide +kernel
theorem dL_law_329 : decode bL_law 329 = .ok (.iconst 0, 1) := by decide +kernel
theorem dL_law_330 : decode bL_law 330 = .ok (.ireturn, 1) := by decide +kernel
theorem dL_law_331 : decode bL_law 331 = .ok (.iload 5, 2) := by decide +kernel
theorem dL_law_333 : decode bL_law 333 = .ok (.ifCond .ne 15, 3) := by decide +kernel
theorem dL_law_336 : decode bL_law 336 = .ok (.aload_n 3, 1) := by decide +kernel
theorem dL_law_337 : decode bL_law 337 = .ok (.iconst 0, 1) := by decide +kernel
theorem dL_law_338 : decode bL_law 338 = .ok (.laload, 1) := by decide +kernel
theorem dL_law_339 : decode bL_law 339 = .ok (.iload 6, 2) := by decide +kernel
theorem dL_law_341 : decode bL_law 341 = .ok (.i2l, 1) := by decide +kernel
theorem dL_law_342 : decode bL_law 342 = .ok (.lcmp, 1) := by decide +kernel
theorem dL_law_343 : decode bL_law 343 = .ok (.ifCond .eq 5, 3) := by decide +kernel
theorem dL_law_346 : decode bL_law 346 = .ok (.iconst 0, 1) := by decide +kernel
theorem dL_law_347 : decode bL_law 347 = .ok (.ireturn, 1) := by decide +kernel
theorem dL_law_348 : decode bL_law 348 = .ok (.goto 623, 3) := by decide +kernel
theorem dL_law_351 : decode bL_law 351 = .ok (.aload_n 1, 1) := by decide +kernel
theorem dL_law_352 : decode bL_law 352 = .ok (.aload_n 0, 1) := by decide +kernel
theorem dL_law_353 : decode bL_law 353 = .ok (.iload 4, 2) := by decide +kernel
theorem dL_law_355 : decode bL_law 355 = .ok (.iconst 1, 1) := by decide +kernel
theorem dL_law_356 : decode bL_law 356 = .ok (.iadd, 1) := by decide +kernel
theorem dL_law_357 : decode bL_law 357 = .ok (.iaload, 1) := by decide +kernel
theorem dL_law_358 : decode bL_law 358 = .ok (.aload_n 0, 1) := by decide +kernel
theorem dL_law_359 : decode bL_law 359 = .ok (.iload 4, 2) := by decide +kernel
theorem dL_law_361 : decode bL_law 361 = .ok (.iconst 2, 1) := by decide +kernel
theorem dL_law_362 : decode bL_law 362 = .ok (.iadd, 1) := by decide +kernel
theorem dL_law_363 : decode bL_law 363 = .ok (.iaload, 1) := by decide +kernel
theorem dL_law_364 : decode bL_law 364 = .ok (.aload_n 0, 1) := by decide +kernel
theorem dL_law_365 : decode bL_law 365 = .ok (.iload 4, 2) := by decide +kernel
theorem dL_law_367 : decode bL_law 367 = .ok (.iconst 3, 1) := by decide +kernel
theorem dL_law_368 : decode bL_law 368 = .ok (.iadd, 1) := by decide +kernel
theorem dL_law_369 : decode bL_law 369 = .ok (.iaload, 1) := by decide +kernel
theorem dL_law_370 : decode bL_law 370 = .ok (.aload_n 0, 1) := by decide +kernel
theorem dL_law_371 : decode bL_law 371 = .ok (.iload 4, 2) := by decide +kernel
theorem dL_law_373 : decode bL_law 373 = .ok (.iconst 4, 1) := by decide +kernel
theorem dL_law_374 : decode bL_law 374 = .ok (.iadd, 1) := by decide +kernel
theorem dL_law_375 : decode bL_law 375 = .ok (.iaload, 1) := by decide +kernel
theorem dL_law_376 : decode bL_law 376 = .ok (.aload_n 3, 1) := by decide +kernel
theorem dL_law_377 : decode bL_law 377 = .ok (.invokestatic 82, 3) := by decide +kernel
theorem dL_law_380 : decode bL_law 380 = .ok (.istore 5, 2) := by decide +kernel
theorem dL_law_382 : decode bL_law 382 = .ok (.aload_n 2, 1) := by decide +kernel
theorem dL_law_383 : decode bL_law 383 = .ok (.aload_n 0, 1) := by decide +kernel
theorem dL_law_384 : decode bL_law 384 = .ok (.iload 4, 2) := by decide +kernel
theorem dL_law_386 : decode bL_law 386 = .ok (.iconst 1, 1) := by decide +kernel
theorem dL_law_387 : decode bL_law 387 = .ok (.iadd, 1) := by decide +kernel
theorem dL_law_388 : decode bL_law 388 = .ok (.iaload, 1) := by decide +kernel
theorem dL_law_389 : decode bL_law 389 = .ok (.aload_n 0, 1) := by decide +kernel
theorem dL_law_390 : decode bL_law 390 = .ok (.iload 4, 2) := by decide +kernel
theorem dL_law_392 : decode bL_law 392 = .ok (.iconst 2, 1) := by decide +kernel
theorem dL_law_393 : decode bL_law 393 = .ok (.iadd, 1) := by decide +kernel
theorem dL_law_394 : decode bL_law 394 = .ok (.iaload, 1) := by decide +kernel
theorem dL_law_395 : decode bL_law 395 = .ok (.aload_n 0, 1) := by decide +kernel
theorem dL_law_396 : decode bL_law 396 = .ok (.iload 4, 2) := by decide +kernel
theorem dL_law_398 : decode bL_law 398 = .ok (.iconst 3, 1) := by decide +kernel
theorem dL_law_399 : decode bL_law 399 = .ok (.iadd, 1) := by decide +kernel
theorem dL_law_400 : decode bL_law 400 = .ok (.iaload, 1) := by decide +kernel
theorem dL_law_401 : decode bL_law 401 = .ok (.aload_n 0, 1) := by decide +kernel
theorem dL_law_402 : decode bL_law 402 = .ok (.iload 4, 2) := by decide +kernel
theorem dL_law_404 : decode bL_law 404 = .ok (.iconst 4, 1) := by decide +kernel
theorem dL_law_405 : decode bL_law 405 = .ok (.iadd, 1) := by decide +kernel
theorem dL_law_406 : decode bL_law 406 = .ok (.iaload, 1) := by decide +kernel
theorem dL_law_407 : decode bL_law 407 = .ok (.invokevirtual 85, 3) := by decide +kernel
theorem dL_law_410 : decode bL_law 410 = .ok (.istore 6, 2) := by decide +kernel
theorem dL_law_412 : decode bL_law 412 = .ok (.aload_n 2, 1) := by decide +kernel
theorem dL_law_413 : decode bL_law 413 = .ok (.invokevirtual 70, 3) := by decide +kernel
theorem dL_law_416 : decode bL_law 416 = .ok (.iload 5, 2) := by decide +kernel
theorem dL_law_418 : decode bL_law 418 = .ok (.if_icmp .eq 5, 3) := by decide +kernel
theorem dL_law_421 : decode bL_law 421 = .ok (.iconst 0, 1) := by decide +kernel
theorem dL_law_422 : decode bL_law 422 = .ok (.ireturn, 1) := by decide +kernel
theorem dL_law_423 : decode bL_law 423 = .ok (.iload 5, 2) := by decide +kernel
theorem dL_law_425 : decode bL_law 425 = .ok (.ifCond .ne 22, 3) := by decide +kernel
theorem dL_law_428 : decode bL_law 428 = .ok (.aload_n 3, 1) := by decide +kernel
theorem dL_law_429 : decode bL_law 429 = .ok (.iconst 0, 1) := by decide +kernel
theorem dL_law_430 : decode bL_law 430 = .ok (.laload, 1) := by decide +kernel
theorem dL_law_431 : decode bL_law 431 = .ok (.iload 6, 2) := by decide +kernel
theorem dL_law_433 : decode bL_law 433 = .ok (.ifCond .eq 7, 3) := by decide +kernel
theorem dL_law_436 : decode bL_law 436 = .ok (.lconst 1, 1) := by decide +kernel
theorem dL_law_437 : decode bL_law 437 = .ok (.goto 4, 3) := by decide +kernel
theorem dL_law_440 : decode bL_law 440 = .ok (.lconst 0, 1) := by decide +kernel
theorem dL_law_441 : decode bL_law 441 = .ok (.lcmp, 1) := by decide +kernel
theorem dL_law_442 : decode bL_law 442 = .ok (.ifCond .eq 5, 3) := by decide +kernel
theorem dL_law_445 : decode bL_law 445 = .ok (.iconst 0, 1) := by decide +kernel
theorem dL_law_446 : decode bL_law 446 = .ok (.ireturn, 1) := by decide +kernel
theorem dL_law_447 : decode bL_law 447 = .ok (.goto 524, 3) := by decide +kernel
theorem dL_law_450 : decode bL_law 450 = .ok (.aload_n 1, 1) := by decide +kernel
theorem dL_law_451 : decode bL_law 451 = .ok (.aload_n 0, 1) := by decide +kernel
theorem dL_law_452 : decode bL_law 452 = .ok (.iload 4, 2) := by decide +kernel
theorem dL_law_454 : decode bL_law 454 = .ok (.iconst 1, 1) := by decide +kernel
theorem dL_law_455 : decode bL_law 455 = .ok (.iadd, 1) := by decide +kernel
theorem dL_law_456 : decode bL_law 456 = .ok (.iaload, 1) := by decide +kernel
theorem dL_law_457 : decode bL_law 457 = .ok (.aload_n 3, 1) := by decide +kernel
theorem dL_law_458 : decode bL_law 458 = .ok (.invokestatic 86, 3) := by decide +kernel
theorem dL_law_461 : decode bL_law 461 = .ok (.istore 5, 2) := by decide +kernel
theorem dL_law_463 : decode bL_law 463 = .ok (.aload_n 2, 1) := by decide +kernel
theorem dL_law_464 : decode bL_law 464 = .ok (.aload_n 0, 1) := by decide +kernel
theorem dL_law_465 : decode bL_law 465 = .ok (.iload 4, 2) := by decide +kernel
theorem dL_law_467 : decode bL_law 467 = .ok (.iconst 1, 1) := by decide +kernel
theorem dL_law_468 : decode bL_law 468 = .ok (.iadd, 1) := by decide +kernel
theorem dL_law_469 : decode bL_law 469 = .ok (.iaload, 1) := by decide +kernel
theorem dL_law_470 : decode bL_law 470 = .ok (.invokevirtual 88, 3) := by decide +kernel
theorem dL_law_473 : decode bL_law 473 = .ok (.istore 6, 2) := by decide +kernel
theorem dL_law_475 : decode bL_law 475 = .ok (.aload_n 2, 1) := by decide +kernel
theorem dL_law_476 : decode bL_law 476 = .ok (.invokevirtual 70, 3) := by decide +kernel
theorem dL_law_479 : decode bL_law 479 = .ok (.iload 5, 2) := by decide +kernel
theorem dL_law_481 : decode bL_law 481 = .ok (.if_icmp .eq 5, 3) := by decide +kernel
theorem dL_law_484 : decode bL_law 484 = .ok (.iconst 0, 1) := by decide +kernel
theorem dL_law_485 : decode bL_law 485 = .ok (.ireturn, 1) := by decide +kernel
theorem dL_law_486 : decode bL_law 486 = .ok (.iload 5, 2) := by decide +kernel
theorem dL_law_488 : decode bL_law 488 = .ok (.ifCond .ne 15, 3) := by decide +kernel
theorem dL_law_491 : decode bL_law 491 = .ok (.aload_n 3, 1) := by decide +kernel
theorem dL_law_492 : decode bL_law 492 = .ok (.iconst 0, 1) := by decide +kernel
theorem dL_law_493 : decode bL_law 493 = .ok (.laload, 1) := by decide +kernel
theorem dL_law_494 : decode bL_law 494 = .ok (.iload 6, 2) := by decide +kernel
theorem dL_law_496 : decode bL_law 496 = .ok (.i2l, 1) := by decide +kernel
theorem dL_law_497 : decode bL_law 497 = .ok (.lcmp, 1) := by decide +kernel
theorem dL_law_498 : decode bL_law 498 = .ok (.ifCond .eq 5, 3) := by decide +kernel
theorem dL_law_501 : decode bL_law 501 = .ok (.iconst 0, 1) := by decide +kernel
theorem dL_law_502 : decode bL_law 502 = .ok (.ireturn, 1) := by decide +kernel
theorem dL_law_503 : decode bL_law 503 = .ok (.goto 468, 3) := by decide +kernel
theorem dL_law_506 : decode bL_law 506 = .ok (.aload_n 1, 1) := by decide +kernel
theorem dL_law_507 : decode bL_law 507 = .ok (.aload_n 0, 1) := by decide +kernel
theorem dL_law_508 : decode bL_law 508 = .ok (.iload 4, 2) := by decide +kernel
theorem dL_law_510 : decode bL_law 510 = .ok (.iconst 1, 1) := by decide +kernel
theorem dL_law_511 : decode bL_law 511 = .ok (.iadd, 1) := by decide +kernel
theorem dL_law_512 : decode bL_law 512 = .ok (.iaload, 1) := by decide +kernel
theorem dL_law_513 : decode bL_law 513 = .ok (.aload_n 3, 1) := by decide +kernel
theorem dL_law_514 : decode bL_law 514 = .ok (.invokestatic 89, 3) := by decide +kernel
theorem dL_law_517 : decode bL_law 517 = .ok (.istore 5, 2) := by decide +kernel
theorem dL_law_519 : decode bL_law 519 = .ok (.aload_n 2, 1) := by decide +kernel
theorem dL_law_520 : decode bL_law 520 = .ok (.aload_n 0, 1) := by decide +kernel
theorem dL_law_521 : decode bL_law 521 = .ok (.iload 4, 2) := by decide +kernel
theorem dL_law_523 : decode bL_law 523 = .ok (.iconst 1, 1) := by decide +kernel
theorem dL_law_524 : decode bL_law 524 = .ok (.iadd, 1) := by decide +kernel
theorem dL_law_525 : decode bL_law 525 = .ok (.iaload, 1) := by decide +kernel
theorem dL_law_526 : decode bL_law 526 = .ok (.invokevirtual 91, 3) := by decide +kernel
theorem dL_law_529 : decode bL_law 529 = .ok (.istore 6, 2) := by decide +kernel
theorem dL_law_531 : decode bL_law 531 = .ok (.aload_n 2, 1) := by decide +kernel
theorem dL_law_532 : decode bL_law 532 = .ok (.invokevirtual 70, 3) := by decide +kernel
theorem dL_law_535 : decode bL_law 535 = .ok (.iload 5, 2) := by decide +kernel
theorem dL_law_537 : decode bL_law 537 = .ok (.if_icmp .eq 5, 3) := by decide +kernel
theorem dL_law_540 : decode bL_law 540 = .ok (.iconst 0, 1) := by decide +kernel
theorem dL_law_541 : decode bL_law 541 = .ok (.ireturn, 1) := by decide +kernel
theorem dL_law_542 : decode bL_law 542 = .ok (.iload 5, 2) := by decide +kernel
theorem dL_law_544 : decode bL_law 544 = .ok (.ifCond .ne 15, 3) := by decide +kernel
theorem dL_law_547 : decode bL_law 547 = .ok (.aload_n 3, 1) := by decide +kernel
theorem dL_law_548 : decode bL_law 548 = .ok (.iconst 0, 1) := by decide +kernel
theorem dL_law_549 : decode bL_law 549 = .ok (.laload, 1) := by decide +kernel
theorem dL_law_550 : decode bL_law 550 = .ok (.iload 6, 2) := by decide +kernel
theorem dL_law_552 : decode bL_law 552 = .ok (.i2l, 1) := by decide +kernel
theorem dL_law_553 : decode bL_law 553 = .ok (.lcmp, 1) := by decide +kernel
theorem dL_law_554 : decode bL_law 554 = .ok (.ifCond .eq 5, 3) := by decide +kernel
theorem dL_law_557 : decode bL_law 557 = .ok (.iconst 0, 1) := by decide +kernel
theorem dL_law_558 : decode bL_law 558 = .ok (.ireturn, 1) := by decide +kernel
theorem dL_law_559 : decode bL_law 559 = .ok (.goto 412, 3) := by decide +kernel
theorem dL_law_562 : decode bL_law 562 = .ok (.aload_n 1, 1) := by decide +kernel
theorem dL_law_563 : decode bL_law 563 = .ok (.aload_n 0, 1) := by decide +kernel
theorem dL_law_564 : decode bL_law 564 = .ok (.iload 4, 2) := by decide +kernel
theorem dL_law_566 : decode bL_law 566 = .ok (.iconst 1, 1) := by decide +kernel
theorem dL_law_567 : decode bL_law 567 = .ok (.iadd, 1) := by decide +kernel
theorem dL_law_568 : decode bL_law 568 = .ok (.iaload, 1) := by decide +kernel
theorem dL_law_569 : decode bL_law 569 = .ok (.aload_n 0, 1) := by decide +kernel
theorem dL_law_570 : decode bL_law 570 = .ok (.iload 4, 2) := by decide +kernel
theorem dL_law_572 : decode bL_law 572 = .ok (.iconst 2, 1) := by decide +kernel
theorem dL_law_573 : decode bL_law 573 = .ok (.iadd, 1) := by decide +kernel
theorem dL_law_574 : decode bL_law 574 = .ok (.iaload, 1) := by decide +kernel
theorem dL_law_575 : decode bL_law 575 = .ok (.aload_n 3, 1) := by decide +kernel
theorem dL_law_576 : decode bL_law 576 = .ok (.invokestatic 92, 3) := by decide +kernel
theorem dL_law_579 : decode bL_law 579 = .ok (.istore 5, 2) := by decide +kernel
theorem dL_law_581 : decode bL_law 581 = .ok (.aload_n 2, 1) := by decide +kernel
theorem dL_law_582 : decode bL_law 582 = .ok (.aload_n 0, 1) := by decide +kernel
theorem dL_law_583 : decode bL_law 583 = .ok (.iload 4, 2) := by decide +kernel
theorem dL_law_585 : decode bL_law 585 = .ok (.iconst 1, 1) := by decide +kernel
theorem dL_law_586 : decode bL_law 586 = .ok (.iadd, 1) := by decide +kernel
theorem dL_law_587 : decode bL_law 587 = .ok (.iaload, 1) := by decide +kernel
theorem dL_law_588 : decode bL_law 588 = .ok (.aload_n 0, 1) := by decide +kernel
theorem dL_law_589 : decode bL_law 589 = .ok (.iload 4, 2) := by decide +kernel
theorem dL_law_591 : decode bL_law 591 = .ok (.iconst 2, 1) := by decide +kernel
theorem dL_law_592 : decode bL_law 592 = .ok (.iadd, 1) := by decide +kernel
theorem dL_law_593 : decode bL_law 593 = .ok (.iaload, 1) := by decide +kernel
theorem dL_law_594 : decode bL_law 594 = .ok (.invokevirtual 94, 3) := by decide +kernel
theorem dL_law_597 : decode bL_law 597 = .ok (.istore 6, 2) := by decide +kernel
theorem dL_law_599 : decode bL_law 599 = .ok (.aload_n 2, 1) := by decide +kernel
theorem dL_law_600 : decode bL_law 600 = .ok (.invokevirtual 70, 3) := by decide +kernel
theorem dL_law_603 : decode bL_law 603 = .ok (.iload 5, 2) := by decide +kernel
theorem dL_law_605 : decode bL_law 605 = .ok (.if_icmp .eq 5, 3) := by decide +kernel
theorem dL_law_608 : decode bL_law 608 = .ok (.iconst 0, 1) := by decide +kernel
theorem dL_law_609 : decode bL_law 609 = .ok (.ireturn, 1) := by decide +kernel
theorem dL_law_610 : decode bL_law 610 = .ok (.iload 5, 2) := by decide +kernel
theorem dL_law_612 : decode bL_law 612 = .ok (.ifCond .ne 15, 3) := by decide +kernel
theorem dL_law_615 : decode bL_law 615 = .ok (.aload_n 3, 1) := by decide +kernel
theorem dL_law_616 : decode bL_law 616 = .ok (.iconst 0, 1) := by decide +kernel
theorem dL_law_617 : decode bL_law 617 = .ok (.laload, 1) := by decide +kernel
theorem dL_law_618 : decode bL_law 618 = .ok (.iload 6, 2) := by decide +kernel
theorem dL_law_620 : decode bL_law 620 = .ok (.i2l, 1) := by decide +kernel
theorem dL_law_621 : decode bL_law 621 = .ok (.lcmp, 1) := by decide +kernel
theorem dL_law_622 : decode bL_law 622 = .ok (.ifCond .eq 5, 3) := by decide +kernel
theorem dL_law_625 : decode bL_law 625 = .ok (.iconst 0, 1) := by decide +kernel
theorem dL_law_626 : decode bL_law 626 = .ok (.ireturn, 1) := by decide +kernel
theorem dL_law_627 : decode bL_law 627 = .ok (.goto 344, 3) := by decide +kernel
theorem dL_law_630 : decode bL_law 630 = .ok (.aload_n 1, 1) := by decide +kernel
theorem dL_law_631 : decode bL_law 631 = .ok (.invokevirtual 95, 3) := by decide +kernel
theorem dL_law_634 : decode bL_law 634 = .ok (.aload_n 2, 1) := by decide +kernel
theorem dL_law_635 : decode bL_law 635 = .ok (.invokevirtual 98, 3) := by decide +kernel
theorem dL_law_638 : decode bL_law 638 = .ok (.if_icmp .eq 333, 3) := by decide +kernel
theorem dL_law_641 : decode bL_law 641 = .ok (.iconst 0, 1) := by decide +kernel
theorem dL_law_642 : decode bL_law 642 = .ok (.ireturn, 1) := by decide +kernel
theorem dL_law_643 : decode bL_law 643 = .ok (.aload_n 1, 1) := by decide +kernel
theorem dL_law_644 : decode bL_law 644 = .ok (.aload_n 0, 1) := by decide +kernel
theorem dL_law_645 : decode bL_law 645 = .ok (.iload 4, 2) := by decide +kernel
theorem dL_law_647 : decode bL_law 647 = .ok (.iconst 1, 1) := by decide +kernel
theorem dL_law_648 : decode bL_law 648 = .ok (.iadd, 1) := by decide +kernel
theorem dL_law_649 : decode bL_law 649 = .ok (.iaload, 1) := by decide +kernel
theorem dL_law_650 : decode bL_law 650 = .ok (.aload_n 0, 1) := by decide +kernel
theorem dL_law_651 : decode bL_law 651 = .ok (.iload 4, 2) := by decide +kernel
theorem dL_law_653 : decode bL_law 653 = .ok (.iconst 2, 1) := by decide +kernel
theorem dL_law_654 : decode bL_law 654 = .ok (.iadd, 1) := by decide +kernel
theorem dL_law_655 : decode bL_law 655 = .ok (.iaload, 1) := by decide +kernel
theorem dL_law_656 : decode bL_law 656 = .ok (.aload_n 3, 1) := by decide +kernel
theorem dL_law_657 : decode bL_law 657 = .ok (.invokestatic 99, 3) := by decide +kernel
theorem dL_law_660 : decode bL_law 660 = .ok (.istore 5, 2) := by decide +kernel
theorem dL_law_662 : decode bL_law 662 = .ok (.aload_n 2, 1) := by decide +kernel
theorem dL_law_663 : decode bL_law 663 = .ok (.aload_n 0, 1) := by decide +kernel
theorem dL_law_664 : decode bL_law 664 = .ok (.iload 4, 2) := by decide +kernel
theorem dL_law_666 : decode bL_law 666 = .ok (.iconst 1, 1) := by decide +kernel
theorem dL_law_667 : decode bL_law 667 = .ok (.iadd, 1) := by decide +kernel
theorem dL_law_668 : decode bL_law 668 = .ok (.iaload, 1) := by decide +kernel
theorem dL_law_669 : decode bL_law 669 = .ok (.aload_n 0, 1) := by decide +kernel
theorem dL_law_670 : decode bL_law 670 = .ok (.iload 4, 2) := by decide +kernel
theorem dL_law_672 : decode bL_law 672 = .ok (.iconst 2, 1) := by decide +kernel
theorem dL_law_673 : decode bL_law 673 = .ok (.iadd, 1) := by decide +kernel
theorem dL_law_674 : decode bL_law 674 = .ok (.iaload, 1) := by decide +kernel
theorem dL_law_675 : decode bL_law 675 = .ok (.invokevirtual 101, 3) := by decide +kernel
theorem dL_law_678 : decode bL_law 678 = .ok (.istore 6, 2) := by decide +kernel
theorem dL_law_680 : decode bL_law 680 = .ok (.aload_n 2, 1) := by decide +kernel
theorem dL_law_681 : decode bL_law 681 = .ok (.invokevirtual 70, 3) := by decide +kernel
theorem dL_law_684 : decode bL_law 684 = .ok (.iload 5, 2) := by decide +kernel
theorem dL_law_686 : decode bL_law 686 = .ok (.if_icmp .eq 5, 3) := by decide +kernel
theorem dL_law_689 : decode bL_law 689 = .ok (.iconst 0, 1) := by decide +kernel
theorem dL_law_690 : decode bL_law 690 = .ok (.ireturn, 1) := by decide +kernel
theorem dL_law_691 : decode bL_law 691 = .ok (.iload 5, 2) := by decide +kernel
theorem dL_law_693 : decode bL_law 693 = .ok (.ifCond .ne 15, 3) := by decide +kernel
theorem dL_law_696 : decode bL_law 696 = .ok (.aload_n 3, 1) := by decide +kernel
theorem dL_law_697 : decode bL_law 697 = .ok (.iconst 0, 1) := by decide +kernel
theorem dL_law_698 : decode bL_law 698 = .ok (.laload, 1) := by decide +kernel
theorem dL_law_699 : decode bL_law 699 = .ok (.iload 6, 2) := by decide +kernel
theorem dL_law_701 : decode bL_law 701 = .ok (.i2l, 1) := by decide +kernel
theorem dL_law_702 : decode bL_law 702 = .ok (.lcmp, 1) := by decide +kernel
theorem dL_law_703 : decode bL_law 703 = .ok (.ifCond .eq 5, 3) := by decide +kernel
theorem dL_law_706 : decode bL_law 706 = .ok (.iconst 0, 1) := by decide +kernel
theorem dL_law_707 : decode bL_law 707 = .ok (.ireturn, 1) := by decide +kernel
theorem dL_law_708 : decode bL_law 708 = .ok (.goto 263, 3) := by decide +kernel
theorem dL_law_711 : decode bL_law 711 = .ok (.aload_n 1, 1) := by decide +kernel
theorem dL_law_712 : decode bL_law 712 = .ok (.aload_n 0, 1) := by decide +kernel
theorem dL_law_713 : decode bL_law 713 = .ok (.iload 4, 2) := by decide +kernel
theorem dL_law_715 : decode bL_law 715 = .ok (.iconst 1, 1) := by decide +kernel
theorem dL_law_716 : decode bL_law 716 = .ok (.iadd, 1) := by decide +kernel
theorem dL_law_717 : decode bL_law 717 = .ok (.iaload, 1) := by decide +kernel
theorem dL_law_718 : decode bL_law 718 = .ok (.aload_n 3, 1) := by decide +kernel
theorem dL_law_719 : decode bL_law 719 = .ok (.invokestatic 102, 3) := by decide +kernel
theorem dL_law_722 : decode bL_law 722 = .ok (.istore 5, 2) := by decide +kernel
theorem dL_law_724 : decode bL_law 724 = .ok (.aload_n 2, 1) := by decide +kernel
theorem dL_law_725 : decode bL_law 725 = .ok (.aload_n 0, 1) := by decide +kernel
theorem dL_law_726 : decode bL_law 726 = .ok (.iload 4, 2) := by decide +kernel
theorem dL_law_728 : decode bL_law 728 = .ok (.iconst 1, 1) := by decide +kernel
theorem dL_law_729 : decode bL_law 729 = .ok (.iadd, 1) := by decide +kernel
theorem dL_law_730 : decode bL_law 730 = .ok (.iaload, 1) := by decide +kernel
theorem dL_law_731 : decode bL_law 731 = .ok (.invokevirtual 104, 3) := by decide +kernel
theorem dL_law_734 : decode bL_law 734 = .ok (.istore 6, 2) := by decide +kernel
theorem dL_law_736 : decode bL_law 736 = .ok (.aload_n 2, 1) := by decide +kernel
theorem dL_law_737 : decode bL_law 737 = .ok (.invokevirtual 70, 3) := by decide +kernel
theorem dL_law_740 : decode bL_law 740 = .ok (.iload 5, 2) := by decide +kernel
theorem dL_law_742 : decode bL_law 742 = .ok (.if_icmp .eq 5, 3) := by decide +kernel
theorem dL_law_745 : decode bL_law 745 = .ok (.iconst 0, 1) := by decide +kernel
theorem dL_law_746 : decode bL_law 746 = .ok (.ireturn, 1) := by decide +kernel
theorem dL_law_747 : decode bL_law 747 = .ok (.iload 5, 2) := by decide +kernel
theorem dL_law_749 : decode bL_law 749 = .ok (.ifCond .ne 15, 3) := by decide +kernel
theorem dL_law_752 : decode bL_law 752 = .ok (.aload_n 3, 1) := by decide +kernel
theorem dL_law_753 : decode bL_law 753 = .ok (.iconst 0, 1) := by decide +kernel
theorem dL_law_754 : decode bL_law 754 = .ok (.laload, 1) := by decide +kernel
theorem dL_law_755 : decode bL_law 755 = .ok (.iload 6, 2) := by decide +kernel
theorem dL_law_757 : decode bL_law 757 = .ok (.i2l, 1) := by decide +kernel
theorem dL_law_758 : decode bL_law 758 = .ok (.lcmp, 1) := by decide +kernel
theorem dL_law_759 : decode bL_law 759 = .ok (.ifCond .eq 5, 3) := by decide +kernel
theorem dL_law_762 : decode bL_law 762 = .ok (.iconst 0, 1) := by decide +kernel
theorem dL_law_763 : decode bL_law 763 = .ok (.ireturn, 1) := by decide +kernel
theorem dL_law_764 : decode bL_law 764 = .ok (.goto 207, 3) := by decide +kernel
theorem dL_law_767 : decode bL_law 767 = .ok (.aload_n 1, 1) := by decide +kernel
theorem dL_law_768 : decode bL_law 768 = .ok (.aload_n 0, 1) := by decide +kernel
theorem dL_law_769 : decode bL_law 769 = .ok (.iload 4, 2) := by decide +kernel
theorem dL_law_771 : decode bL_law 771 = .ok (.iconst 1, 1) := by decide +kernel
theorem dL_law_772 : decode bL_law 772 = .ok (.iadd, 1) := by decide +kernel
theorem dL_law_773 : decode bL_law 773 = .ok (.iaload, 1) := by decide +kernel
theorem dL_law_774 : decode bL_law 774 = .ok (.aload_n 0, 1) := by decide +kernel
theorem dL_law_775 : decode bL_law 775 = .ok (.iload 4, 2) := by decide +kernel
theorem dL_law_777 : decode bL_law 777 = .ok (.iconst 2, 1) := by decide +kernel
theorem dL_law_778 : decode bL_law 778 = .ok (.iadd, 1) := by decide +kernel
theorem dL_law_779 : decode bL_law 779 = .ok (.iaload, 1) := by decide +kernel
theorem dL_law_780 : decode bL_law 780 = .ok (.aload_n 0, 1) := by decide +kernel
theorem dL_law_781 : decode bL_law 781 = .ok (.iload 4, 2) := by decide +kernel
theorem dL_law_783 : decode bL_law 783 = .ok (.iconst 3, 1) := by decide +kernel
theorem dL_law_784 : decode bL_law 784 = .ok (.iadd, 1) := by decide +kernel
theorem dL_law_785 : decode bL_law 785 = .ok (.iaload, 1) := by decide +kernel
theorem dL_law_786 : decode bL_law 786 = .ok (.aload_n 3, 1) := by decide +kernel
theorem dL_law_787 : decode bL_law 787 = .ok (.invokestatic 105, 3) := by decide +kernel
theorem dL_law_790 : decode bL_law 790 = .ok (.istore 5, 2) := by decide +kernel
theorem dL_law_792 : decode bL_law 792 = .ok (.aload_n 2, 1) := by decide +kernel
theorem dL_law_793 : decode bL_law 793 = .ok (.aload_n 0, 1) := by decide +kernel
theorem dL_law_794 : decode bL_law 794 = .ok (.iload 4, 2) := by decide +kernel
theorem dL_law_796 : decode bL_law 796 = .ok (.iconst 1, 1) := by decide +kernel
theorem dL_law_797 : decode bL_law 797 = .ok (.iadd, 1) := by decide +kernel
theorem dL_law_798 : decode bL_law 798 = .ok (.iaload, 1) := by decide +kernel
theorem dL_law_799 : decode bL_law 799 = .ok (.aload_n 0, 1) := by decide +kernel
theorem dL_law_800 : decode bL_law 800 = .ok (.iload 4, 2) := by decide +kernel
theorem dL_law_802 : decode bL_law 802 = .ok (.iconst 2, 1) := by decide +kernel
theorem dL_law_803 : decode bL_law 803 = .ok (.iadd, 1) := by decide +kernel
theorem dL_law_804 : decode bL_law 804 = .ok (.iaload, 1) := by decide +kernel
theorem dL_law_805 : decode bL_law 805 = .ok (.aload_n 0, 1) := by decide +kernel
theorem dL_law_806 : decode bL_law 806 = .ok (.iload 4, 2) := by decide +kernel
theorem dL_law_808 : decode bL_law 808 = .ok (.iconst 3, 1) := by decide +kernel
theorem dL_law_809 : decode bL_law 809 = .ok (.iadd, 1) := by decide +kernel
theorem dL_law_810 : decode bL_law 810 = .ok (.iaload, 1) := by decide +kernel
theorem dL_law_811 : decode bL_law 811 = .ok (.invokevirtual 108, 3) := by decide +kernel
theorem dL_law_814 : decode bL_law 814 = .ok (.istore 6, 2) := by decide +kernel
theorem dL_law_816 : decode bL_law 816 = .ok (.aload_n 2, 1) := by decide +kernel
theorem dL_law_817 : decode bL_law 817 = .ok (.invokevirtual 70, 3) := by decide +kernel
theorem dL_law_820 : decode bL_law 820 = .ok (.iload 5, 2) := by decide +kernel
theorem dL_law_822 : decode bL_law 822 = .ok (.if_icmp .eq 5, 3) := by decide +kernel
theorem dL_law_825 : decode bL_law 825 = .ok (.iconst 0, 1) := by decide +kernel
theorem dL_law_826 : decode bL_law 826 = .ok (.ireturn, 1) := by decide +kernel
theorem dL_law_827 : decode bL_law 827 = .ok (.iload 5, 2) := by decide +kernel
theorem dL_law_829 : decode bL_law 829 = .ok (.ifCond .ne 15, 3) := by decide +kernel
theorem dL_law_832 : decode bL_law 832 = .ok (.aload_n 3, 1) := by decide +kernel
theorem dL_law_833 : decode bL_law 833 = .ok (.iconst 0, 1) := by decide +kernel
theorem dL_law_834 : decode bL_law 834 = .ok (.laload, 1) := by decide +kernel
theorem dL_law_835 : decode bL_law 835 = .ok (.iload 6, 2) := by decide +kernel
theorem dL_law_837 : decode bL_law 837 = .ok (.i2l, 1) := by decide +kernel
theorem dL_law_838 : decode bL_law 838 = .ok (.lcmp, 1) := by decide +kernel
theorem dL_law_839 : decode bL_law 839 = .ok (.ifCond .eq 5, 3) := by decide +kernel
theorem dL_law_842 : decode bL_law 842 = .ok (.iconst 0, 1) := by decide +kernel
theorem dL_law_843 : decode bL_law 843 = .ok (.ireturn, 1) := by decide +kernel
theorem dL_law_844 : decode bL_law 844 = .ok (.goto 127, 3) := by decide +kernel
theorem dL_law_847 : decode bL_law 847 = .ok (.aload_n 1, 1) := by decide +kernel
theorem dL_law_848 : decode bL_law 848 = .ok (.aload_n 0, 1) := by decide +kernel
theorem dL_law_849 : decode bL_law 849 = .ok (.iload 4, 2) := by decide +kernel
theorem dL_law_851 : decode bL_law 851 = .ok (.iconst 1, 1) := by decide +kernel
theorem dL_law_852 : decode bL_law 852 = .ok (.iadd, 1) := by decide +kernel
theorem dL_law_853 : decode bL_law 853 = .ok (.iaload, 1) := by decide +kernel
theorem dL_law_854 : decode bL_law 854 = .ok (.aload_n 0, 1) := by decide +kernel
theorem dL_law_855 : decode bL_law 855 = .ok (.iload 4, 2) := by decide +kernel
theorem dL_law_857 : decode bL_law 857 = .ok (.iconst 2, 1) := by decide +kernel
theorem dL_law_858 : decode bL_law 858 = .ok (.iadd, 1) := by decide +kernel
theorem dL_law_859 : decode bL_law 859 = .ok (.iaload, 1) := by decide +kernel
theorem dL_law_860 : decode bL_law 860 = .ok (.aload_n 3, 1) := by decide +kernel
theorem dL_law_861 : decode bL_law 861 = .ok (.invokestatic 109, 3) := by decide +kernel
theorem dL_law_864 : decode bL_law 864 = .ok (.istore 5, 2) := by decide +kernel
theorem dL_law_866 : decode bL_law 866 = .ok (.aload_n 2, 1) := by decide +kernel
theorem dL_law_867 : decode bL_law 867 = .ok (.aload_n 0, 1) := by decide +kernel
theorem dL_law_868 : decode bL_law 868 = .ok (.iload 4, 2) := by decide +kernel
theorem dL_law_870 : decode bL_law 870 = .ok (.iconst 1, 1) := by decide +kernel
theorem dL_law_871 : decode bL_law 871 = .ok (.iadd, 1) := by decide +kernel
theorem dL_law_872 : decode bL_law 872 = .ok (.iaload, 1) := by decide +kernel
theorem dL_law_873 : decode bL_law 873 = .ok (.aload_n 0, 1) := by decide +kernel
theorem dL_law_874 : decode bL_law 874 = .ok (.iload 4, 2) := by decide +kernel
theorem dL_law_876 : decode bL_law 876 = .ok (.iconst 2, 1) := by decide +kernel
theorem dL_law_877 : decode bL_law 877 = .ok (.iadd, 1) := by decide +kernel
theorem dL_law_878 : decode bL_law 878 = .ok (.iaload, 1) := by decide +kernel
theorem dL_law_879 : decode bL_law 879 = .ok (.invokevirtual 111, 3) := by decide +kernel
theorem dL_law_882 : decode bL_law 882 = .ok (.istore 6, 2) := by decide +kernel
theorem dL_law_884 : decode bL_law 884 = .ok (.aload_n 2, 1) := by decide +kernel
theorem dL_law_885 : decode bL_law 885 = .ok (.invokevirtual 70, 3) := by decide +kernel
theorem dL_law_888 : decode bL_law 888 = .ok (.iload 5, 2) := by decide +kernel
theorem dL_law_890 : decode bL_law 890 = .ok (.if_icmp .eq 5, 3) := by decide +kernel
theorem dL_law_893 : decode bL_law 893 = .ok (.iconst 0, 1) := by decide +kernel
theorem dL_law_894 : decode bL_law 894 = .ok (.ireturn, 1) := by decide +kernel
theorem dL_law_895 : decode bL_law 895 = .ok (.iload 5, 2) := by decide +kernel
theorem dL_law_897 : decode bL_law 897 = .ok (.ifCond .ne 15, 3) := by decide +kernel
theorem dL_law_900 : decode bL_law 900 = .ok (.aload_n 3, 1) := by decide +kernel
theorem dL_law_901 : decode bL_law 901 = .ok (.iconst 0, 1) := by decide +kernel
theorem dL_law_902 : decode bL_law 902 = .ok (.laload, 1) := by decide +kernel
theorem dL_law_903 : decode bL_law 903 = .ok (.iload 6, 2) := by decide +kernel
theorem dL_law_905 : decode bL_law 905 = .ok (.i2l, 1) := by decide +kernel
theorem dL_law_906 : decode bL_law 906 = .ok (.lcmp, 1) := by decide +kernel
theorem dL_law_907 : decode bL_law 907 = .ok (.ifCond .eq 5, 3) := by decide +kernel
theorem dL_law_910 : decode bL_law 910 = .ok (.iconst 0, 1) := by decide +kernel
theorem dL_law_911 : decode bL_law 911 = .ok (.ireturn, 1) := by decide +kernel
theorem dL_law_912 : decode bL_law 912 = .ok (.goto 59, 3) := by decide +kernel
theorem dL_law_915 : decode bL_law 915 = .ok (.aload_n 1, 1) := by decide +kernel
theorem dL_law_916 : decode bL_law 916 = .ok (.aload_n 0, 1) := by decide +kernel
theorem dL_law_917 : decode bL_law 917 = .ok (.iload 4, 2) := by decide +kernel
theorem dL_law_919 : decode bL_law 919 = .ok (.iconst 1, 1) := by decide +kernel
theorem dL_law_920 : decode bL_law 920 = .ok (.iadd, 1) := by decide +kernel
theorem dL_law_921 : decode bL_law 921 = .ok (.iaload, 1) := by decide +kernel
theorem dL_law_922 : decode bL_law 922 = .ok (.aload_n 3, 1) := by decide +kernel
theorem dL_law_923 : decode bL_law 923 = .ok (.invokestatic 112, 3) := by decide +kernel
theorem dL_law_926 : decode bL_law 926 = .ok (.istore 5, 2) := by decide +kernel
theorem dL_law_928 : decode bL_law 928 = .ok (.aload_n 2, 1) := by decide +kernel
theorem dL_law_929 : decode bL_law 929 = .ok (.aload_n 0, 1) := by decide +kernel
theorem dL_law_930 : decode bL_law 930 = .ok (.iload 4, 2) := by decide +kernel
theorem dL_law_932 : decode bL_law 932 = .ok (.iconst 1, 1) := by decide +kernel
theorem dL_law_933 : decode bL_law 933 = .ok (.iadd, 1) := by decide +kernel
theorem dL_law_934 : decode bL_law 934 = .ok (.iaload, 1) := by decide +kernel
theorem dL_law_935 : decode bL_law 935 = .ok (.invokevirtual 114, 3) := by decide +kernel
theorem dL_law_938 : decode bL_law 938 = .ok (.istore 6, 2) := by decide +kernel
theorem dL_law_940 : decode bL_law 940 = .ok (.aload_n 2, 1) := by decide +kernel
theorem dL_law_941 : decode bL_law 941 = .ok (.invokevirtual 70, 3) := by decide +kernel
theorem dL_law_944 : decode bL_law 944 = .ok (.iload 5, 2) := by decide +kernel
theorem dL_law_946 : decode bL_law 946 = .ok (.if_icmp .eq 5, 3) := by decide +kernel
theorem dL_law_949 : decode bL_law 949 = .ok (.iconst 0, 1) := by decide +kernel
theorem dL_law_950 : decode bL_law 950 = .ok (.ireturn, 1) := by decide +kernel
theorem dL_law_951 : decode bL_law 951 = .ok (.iload 5, 2) := by decide +kernel
theorem dL_law_953 : decode bL_law 953 = .ok (.ifCond .ne 15, 3) := by decide +kernel
theorem dL_law_956 : decode bL_law 956 = .ok (.aload_n 3, 1) := by decide +kernel
theorem dL_law_957 : decode bL_law 957 = .ok (.iconst 0, 1) := by decide +kernel
theorem dL_law_958 : decode bL_law 958 = .ok (.laload, 1) := by decide +kernel
theorem dL_law_959 : decode bL_law 959 = .ok (.iload 6, 2) := by decide +kernel
theorem dL_law_961 : decode bL_law 961 = .ok (.i2l, 1) := by decide +kernel
theorem dL_law_962 : decode bL_law 962 = .ok (.lcmp, 1) := by decide +kernel
theorem dL_law_963 : decode bL_law 963 = .ok (.ifCond .eq 5, 3) := by decide +kernel
theorem dL_law_966 : decode bL_law 966 = .ok (.iconst 0, 1) := by decide +kernel
theorem dL_law_967 : decode bL_law 967 = .ok (.ireturn, 1) := by decide +kernel
theorem dL_law_968 : decode bL_law 968 = .ok (.goto 3, 3) := by decide +kernel
theorem dL_law_971 : decode bL_law 971 = .ok (.iinc 4 5, 3) := by decide +kernel
theorem dL_law_974 : decode bL_law 974 = .ok (.goto (-931), 3) := by decide +kernel
theorem dL_law_977 : decode bL_law 977 = .ok (.iconst 1, 1) := by decide +kernel
theorem dL_law_978 : decode bL_law 978 = .ok (.ireturn, 1) := by decide +kernel

theorem dX9_target_4 : decode cX9_target 4 = .ok (.iload_n 1, 1) := by decide +kernel
theorem dX9_target_5 : decode cX9_target 5 = .ok (.invokevirtual 171, 3) := by decide +kernel
theorem dX9_target_8 : decode cX9_target 8 = .ok (.ifCond .eq 12, 3) := by decide +kernel
theorem dX9_target_11 : decode cX9_target 11 = .ok (.iload_n 2, 1) := by decide +kernel
theorem dX9_target_12 : decode cX9_target 12 = .ok (.ifCond .lt 8, 3) := by decide +kernel
theorem dX9_target_15 : decode cX9_target 15 = .ok (.iload_n 2, 1) := by decide +kernel
theorem dX9_target_16 : decode cX9_target 16 = .ok (.iconst 5, 1) := by decide +kernel
theorem dX9_target_17 : decode cX9_target 17 = .ok (.if_icmp .le 13, 3) := by decide +kernel
theorem dX9_target_20 : decode cX9_target 20 = .ok (.new 109, 3) := by decide +kernel
theorem dX9_target_23 : decode cX9_target 23 = .ok (.dup, 1) := by decide +kernel
theorem dX9_target_24 : decode cX9_target 24 = .ok (.ldc 175, 2) := by decide +kernel
theorem dX9_target_26 : decode cX9_target 26 = .ok (.invokespecial 113, 3) := by decide +kernel
theorem dX9_target_29 : decode cX9_target 29 = .ok (.athrow, 1) := by decide +kernel
theorem dX9_target_30 : decode cX9_target 30 = .ok (.aload_n 0, 1) := by decide +kernel
theorem dX9_target_31 : decode cX9_target 31 = .ok (.getfield 28, 3) := by decide +kernel
theorem dX9_target_34 : decode cX9_target 34 = .ok (.iload_n 1, 1) := by decide +kernel
theorem dX9_target_35 : decode cX9_target 35 = .ok (.iload_n 2, 1) := by decide +kernel
theorem dX9_target_36 : decode cX9_target 36 = .ok (.aload_n 0, 1) := by decide +kernel
theorem dX9_target_37 : decode cX9_target 37 = .ok (.getfield 60, 3) := by decide +kernel
theorem dX9_target_40 : decode cX9_target 40 = .ok (.invokevirtual 177, 3) := by decide +kernel
theorem dX9_target_43 : decode cX9_target 43 = .ok (.ireturn, 1) := by decide +kernel
theorem dX9_addPass_0 : decode cX9_addPass 0 = .ok (.iload_n 1, 1) := by decide +kernel
theorem dX9_addPass_1 : decode cX9_addPass 1 = .ok (.ifCond .lt 33, 3) := by decide +kernel
theorem dX9_addPass_4 : decode cX9_addPass 4 = .ok (.iload_n 1, 1) := by decide +kernel
theorem dX9_addPass_5 : decode cX9_addPass 5 = .ok (.sipush 1440, 3) := by decide +kernel
theorem dX9_addPass_8 : decode cX9_addPass 8 = .ok (.if_icmp .ge 26, 3) := by decide +kernel
theorem dX9_addPass_11 : decode cX9_addPass 11 = .ok (.iload_n 2, 1) := by decide +kernel
theorem dX9_addPass_12 : decode cX9_addPass 12 = .ok (.iload_n 1, 1) := by decide +kernel
theorem dX9_addPass_13 : decode cX9_addPass 13 = .ok (.if_icmp .le 21, 3) := by decide +kernel
theorem dX9_addPass_16 : decode cX9_addPass 16 = .ok (.iload_n 2, 1) := by decide +kernel
theorem dX9_addPass_17 : decode cX9_addPass 17 = .ok (.sipush 1440, 3) := by decide +kernel
theorem dX9_addPass_20 : decode cX9_addPass 20 = .ok (.if_icmp .gt 14, 3) := by decide +kernel
theorem dX9_addPass_23 : decode cX9_addPass 23 = .ok (.iload_n 3, 1) := by decide +kernel
theorem dX9_addPass_24 : decode cX9_addPass 24 = .ok (.iconst 1, 1) := by decide +kernel
theorem dX9_addPass_25 : decode cX9_addPass 25 = .ok (.if_icmp .lt 9, 3) := by decide +kernel
theorem dX9_addPass_28 : decode cX9_addPass 28 = .ok (.iload_n 3, 1) := by decide +kernel
theorem dX9_addPass_29 : decode cX9_addPass 29 = .ok (.bipush 20, 2) := by decide +kernel
theorem dX9_addPass_31 : decode cX9_addPass 31 = .ok (.if_icmp .le 13, 3) := by decide +kernel
theorem dX9_addPass_34 : decode cX9_addPass 34 = .ok (.new 88, 3) := by decide +kernel
theorem dX9_addPass_37 : decode cX9_addPass 37 = .ok (.dup, 1) := by decide +kernel
theorem dX9_addPass_38 : decode cX9_addPass 38 = .ok (.ldc 181, 2) := by decide +kernel
theorem dX9_addPass_40 : decode cX9_addPass 40 = .ok (.invokespecial 92, 3) := by decide +kernel
theorem dX9_addPass_43 : decode cX9_addPass 43 = .ok (.athrow, 1) := by decide +kernel
theorem dX9_addPass_44 : decode cX9_addPass 44 = .ok (.aload_n 0, 1) := by decide +kernel
theorem dX9_addPass_45 : decode cX9_addPass 45 = .ok (.getfield 35, 3) := by decide +kernel
theorem dX9_addPass_48 : decode cX9_addPass 48 = .ok (.invokevirtual 183, 3) := by decide +kernel
theorem dX9_addPass_51 : decode cX9_addPass 51 = .ok (.ifCond .eq 13, 3) := by decide +kernel
theorem dX9_addPass_54 : decode cX9_addPass 54 = .ok (.new 162, 3) := by decide +kernel
theorem dX9_addPass_57 : decode cX9_addPass 57 = .ok (.dup, 1) := by decide +kernel
theorem dX9_addPass_58 : decode cX9_addPass 58 = .ok (.ldc 184, 2) := by decide +kernel
theorem dX9_addPass_60 : decode cX9_addPass 60 = .ok (.invokespecial 166, 3) := by decide +kernel
theorem dX9_addPass_63 : decode cX9_addPass 63 = .ok (.athrow, 1) := by decide +kernel
theorem dX9_addPass_64 : decode cX9_addPass 64 = .ok (.aload_n 0, 1) := by decide +kernel
theorem dX9_addPass_65 : decode cX9_addPass 65 = .ok (.getfield 35, 3) := by decide +kernel
theorem dX9_addPass_68 : decode cX9_addPass 68 = .ok (.iload_n 1, 1) := by decide +kernel
theorem dX9_addPass_69 : decode cX9_addPass 69 = .ok (.iload_n 2, 1) := by decide +kernel
theorem dX9_addPass_70 : decode cX9_addPass 70 = .ok (.iload_n 3, 1) := by decide +kernel
theorem dX9_addPass_71 : decode cX9_addPass 71 = .ok (.invokevirtual 186, 3) := by decide +kernel
theorem dX9_addPass_74 : decode cX9_addPass 74 = .ok (.ireturn, 1) := by decide +kernel
theorem dX9_rate_0 : decode cX9_rate 0 = .ok (.iload_n 1, 1) := by decide +kernel
theorem dX9_rate_1 : decode cX9_rate 1 = .ok (.ifCond .lt 10, 3) := by decide +kernel
theorem dX9_rate_4 : decode cX9_rate 4 = .ok (.iload_n 1, 1) := by decide +kernel
theorem dX9_rate_5 : decode cX9_rate 5 = .ok (.sipush 1440, 3) := by decide +kernel
theorem dX9_rate_8 : decode cX9_rate 8 = .ok (.if_icmp .lt 13, 3) := by decide +kernel
theorem dX9_rate_11 : decode cX9_rate 11 = .ok (.new 88, 3) := by decide +kernel
theorem dX9_rate_14 : decode cX9_rate 14 = .ok (.dup, 1) := by decide +kernel
theorem dX9_rate_15 : decode cX9_rate 15 = .ok (.ldc 189, 2) := by decide +kernel
theorem dX9_rate_17 : decode cX9_rate 17 = .ok (.invokespecial 92, 3) := by decide +kernel
theorem dX9_rate_20 : decode cX9_rate 20 = .ok (.athrow, 1) := by decide +kernel
theorem dX9_rate_21 : decode cX9_rate 21 = .ok (.aload_n 0, 1) := by decide +kernel
theorem dX9_rate_22 : decode cX9_rate 22 = .ok (.getfield 35, 3) := by decide +kernel
theorem dX9_rate_25 : decode cX9_rate 25 = .ok (.iload_n 1, 1) := by decide +kernel
theorem dX9_rate_26 : decode cX9_rate 26 = .ok (.invokevirtual 191, 3) := by decide +kernel
theorem dX9_rate_29 : decode cX9_rate 29 = .ok (.ireturn, 1) := by decide +kernel
theorem dX9_sky_0 : decode cX9_sky 0 = .ok (.iload_n 1, 1) := by decide +kernel
theorem dX9_sky_1 : decode cX9_sky 1 = .ok (.ifCond .lt 10, 3) := by decide +kernel
theorem dX9_sky_4 : decode cX9_sky 4 = .ok (.iload_n 1, 1) := by decide +kernel
theorem dX9_sky_5 : decode cX9_sky 5 = .ok (.sipush 1440, 3) := by decide +kernel
theorem dX9_sky_8 : decode cX9_sky 8 = .ok (.if_icmp .lt 13, 3) := by decide +kernel
theorem dX9_sky_11 : decode cX9_sky 11 = .ok (.new 88, 3) := by decide +kernel
theorem dX9_sky_14 : decode cX9_sky 14 = .ok (.dup, 1) := by decide +kernel
theorem dX9_sky_15 : decode cX9_sky 15 = .ok (.ldc 189, 2) := by decide +kernel
theorem dX9_sky_17 : decode cX9_sky 17 = .ok (.invokespecial 92, 3) := by decide +kernel
theorem dX9_sky_20 : decode cX9_sky 20 = .ok (.athrow, 1) := by decide +kernel
theorem dX9_sky_21 : decode cX9_sky 21 = .ok (.iload_n 1, 1) := by decide +kernel
theorem dX9_sky_22 : decode cX9_sky 22 = .ok (.invokestatic 194, 3) := by decide +kernel
theorem dX9_sky_25 : decode cX9_sky 25 = .ok (.istore_n 3, 1) := by decide +kernel
theorem dX9_sky_26 : decode cX9_sky 26 = .ok (.iload_n 2, 1) := by decide +kernel
theorem dX9_sky_27 : decode cX9_sky 27 = .ok (.ifCond .eq 10, 3) := by decide +kernel
theorem dX9_sky_30 : decode cX9_sky 30 = .ok (.iload_n 3, 1) := by decide +kernel
theorem dX9_sky_31 : decode cX9_sky 31 = .ok (.invokestatic 197, 3) := by decide +kernel
theorem dX9_sky_34 : decode cX9_sky 34 = .ok (.goto 14, 3) := by decide +kernel
theorem dX9_sky_37 : decode cX9_sky 37 = .ok (.iload_n 3, 1) := by decide +kernel
theorem dX9_sky_38 : decode cX9_sky 38 = .ok (.aload_n 0, 1) := by decide +kernel
theorem dX9_sky_39 : decode cX9_sky 39 = .ok (.getfield 60, 3) := by decide +kernel
theorem dX9_sky_42 : decode cX9_sky 42 = .ok (.getfield 200, 3) := by decide +kernel
theorem dX9_sky_45 : decode cX9_sky 45 = .ok (.invokestatic 203, 3) := by decide +kernel
theorem dX9_sky_48 : decode cX9_sky 48 = .ok (.ireturn, 1) := by decide +kernel
theorem dX9_setRover_0 : decode cX9_setRover 0 = .ok (.iload_n 1, 1) := by decide +kernel
theorem dX9_setRover_1 : decode cX9_setRover 1 = .ok (.bipush 100, 2) := by decide +kernel
theorem dX9_setRover_3 : decode cX9_setRover 3 = .ok (.if_icmp .lt 23, 3) := by decide +kernel
theorem dX9_setRover_6 : decode cX9_setRover 6 = .ok (.iload_n 1, 1) := by decide +kernel
theorem dX9_setRover_7 : decode cX9_setRover 7 = .ok (.sipush 20000, 3) := by decide +kernel
theorem dX9_setRover_10 : decode cX9_setRover 10 = .ok (.if_icmp .gt 16, 3) := by decide +kernel
theorem dX9_setRover_13 : decode cX9_setRover 13 = .ok (.iload_n 2, 1) := by decide +kernel
theorem dX9_setRover_14 : decode cX9_setRover 14 = .ok (.bipush 40, 2) := by decide +kernel
theorem dX9_setRover_16 : decode cX9_setRover 16 = .ok (.if_icmp .lt 10, 3) := by decide +kernel
theorem dX9_setRover_19 : decode cX9_setRover 19 = .ok (.iload_n 2, 1) := by decide +kernel
theorem dX9_setRover_20 : decode cX9_setRover 20 = .ok (.sipush 5000, 3) := by decide +kernel
theorem dX9_setRover_23 : decode cX9_setRover 23 = .ok (.if_icmp .le 13, 3) := by decide +kernel
theorem dX9_setRover_26 : decode cX9_setRover 26 = .ok (.new 88, 3) := by decide +kernel
theorem dX9_setRover_29 : decode cX9_setRover 29 = .ok (.dup, 1) := by decide +kernel
theorem dX9_setRover_30 : decode cX9_setRover 30 = .ok (.ldc 206, 2) := by decide +kernel
theorem dX9_setRover_32 : decode cX9_setRover 32 = .ok (.invokespecial 92, 3) := by decide +kernel
theorem dX9_setRover_35 : decode cX9_setRover 35 = .ok (.athrow, 1) := by decide +kernel
theorem dX9_setRover_36 : decode cX9_setRover 36 = .ok (.aload_n 0, 1) := by decide +kernel
theorem dX9_setRover_37 : decode cX9_setRover 37 = .ok (.getfield 60, 3) := by decide +kernel
theorem dX9_setRover_40 : decode cX9_setRover 40 = .ok (.invokevirtual 208, 3) := by decide +kernel
theorem dX9_setRover_43 : decode cX9_setRover 43 = .ok (.iload_n 2, 1) := by decide +kernel
theorem dX9_setRover_44 : decode cX9_setRover 44 = .ok (.if_icmp .le 13, 3) := by decide +kernel
theorem dX9_setRover_47 : decode cX9_setRover 47 = .ok (.new 162, 3) := by decide +kernel
theorem dX9_setRover_50 : decode cX9_setRover 50 = .ok (.dup, 1) := by decide +kernel
theorem dX9_setRover_51 : decode cX9_setRover 51 = .ok (.ldc 212, 2) := by decide +kernel
theorem dX9_setRover_53 : decode cX9_setRover 53 = .ok (.invokespecial 166, 3) := by decide +kernel
theorem dX9_setRover_56 : decode cX9_setRover 56 = .ok (.athrow, 1) := by decide +kernel
theorem dX9_setRover_57 : decode cX9_setRover 57 = .ok (.aload_n 0, 1) := by decide +kernel
theorem dX9_setRover_58 : decode cX9_setRover 58 = .ok (.getfield 44, 3) := by decide +kernel
theorem dX9_setRover_61 : decode cX9_setRover 61 = .ok (.getfield 214, 3) := by decide +kernel
theorem dX9_setRover_64 : decode cX9_setRover 64 = .ok (.istore_n 3, 1) := by decide +kernel
theorem dX9_setRover_65 : decode cX9_setRover 65 = .ok (.aload_n 0, 1) := by decide +kernel
theorem dX9_setRover_66 : decode cX9_setRover 66 = .ok (.getfield 44, 3) := by decide +kernel
theorem dX9_setRover_69 : decode cX9_setRover 69 = .ok (.iload_n 1, 1) := by decide +kernel
theorem dX9_setRover_70 : decode cX9_setRover 70 = .ok (.putfield 214, 3) := by decide +kernel
theorem dX9_setRover_73 : decode cX9_setRover 73 = .ok (.aload_n 0, 1) := by decide +kernel
theorem dX9_setRover_74 : decode cX9_setRover 74 = .ok (.getfield 44, 3) := by decide +kernel
theorem dX9_setRover_77 : decode cX9_setRover 77 = .ok (.iload_n 2, 1) := by decide +kernel
theorem dX9_setRover_78 : decode cX9_setRover 78 = .ok (.putfield 217, 3) := by decide +kernel
theorem dX9_setRover_81 : decode cX9_setRover 81 = .ok (.aload_n 0, 1) := by decide +kernel
theorem dX9_setRover_82 : decode cX9_setRover 82 = .ok (.getfield 60, 3) := by decide +kernel
theorem dX9_setRover_85 : decode cX9_setRover 85 = .ok (.iload_n 1, 1) := by decide +kernel
theorem dX9_setRover_86 : decode cX9_setRover 86 = .ok (.invokevirtual 220, 3) := by decide +kernel
theorem dX9_setRover_89 : decode cX9_setRover 89 = .ok (.iload_n 3, 1) := by decide +kernel
theorem dX9_setRover_90 : decode cX9_setRover 90 = .ok (.ireturn, 1) := by decide +kernel
theorem dX9_rover_0 : decode cX9_rover 0 = .ok (.iload_n 1, 1) := by decide +kernel
theorem dX9_rover_1 : decode cX9_rover 1 = .ok (.ifCond .lt 9, 3) := by decide +kernel
theorem dX9_rover_4 : decode cX9_rover 4 = .ok (.iload_n 1, 1) := by decide +kernel
theorem dX9_rover_5 : decode cX9_rover 5 = .ok (.bipush 9, 2) := by decide +kernel
theorem dX9_rover_7 : decode cX9_rover 7 = .ok (.if_icmp .le 13, 3) := by decide +kernel
theorem dX9_rover_10 : decode cX9_rover 10 = .ok (.new 109, 3) := by decide +kernel
theorem dX9_rover_13 : decode cX9_rover 13 = .ok (.dup, 1) := by decide +kernel
theorem dX9_rover_14 : decode cX9_rover 14 = .ok (.ldc 223, 2) := by decide +kernel
theorem dX9_rover_16 : decode cX9_rover 16 = .ok (.invokespecial 113, 3) := by decide +kernel
theorem dX9_rover_19 : decode cX9_rover 19 = .ok (.athrow, 1) := by decide +kernel
theorem dX9_rover_20 : decode cX9_rover 20 = .ok (.aload_n 0, 1) := by decide +kernel
theorem dX9_rover_21 : decode cX9_rover 21 = .ok (.getfield 60, 3) := by decide +kernel
theorem dX9_rover_24 : decode cX9_rover 24 = .ok (.iload_n 1, 1) := by decide +kernel
theorem dX9_rover_25 : decode cX9_rover 25 = .ok (.invokevirtual 225, 3) := by decide +kernel
theorem dX9_rover_28 : decode cX9_rover 28 = .ok (.ireturn, 1) := by decide +kernel
theorem dX9_piece_0 : decode cX9_piece 0 = .ok (.aload_n 0, 1) := by decide +kernel
theorem dX9_piece_1 : decode cX9_piece 1 = .ok (.getfield 60, 3) := by decide +kernel
theorem dX9_piece_4 : decode cX9_piece 4 = .ok (.iload_n 1, 1) := by decide +kernel
theorem dX9_piece_5 : decode cX9_piece 5 = .ok (.invokevirtual 227, 3) := by decide +kernel
theorem dX9_piece_8 : decode cX9_piece 8 = .ok (.ifCond .eq 12, 3) := by decide +kernel
theorem dX9_piece_11 : decode cX9_piece 11 = .ok (.iload_n 2, 1) := by decide +kernel
theorem dX9_piece_12 : decode cX9_piece 12 = .ok (.ifCond .lt 8, 3) := by decide +kernel
theorem dX9_piece_15 : decode cX9_piece 15 = .ok (.iload_n 2, 1) := by decide +kernel
theorem dX9_piece_16 : decode cX9_piece 16 = .ok (.iconst 3, 1) := by decide +kernel
theorem dX9_piece_17 : decode cX9_piece 17 = .ok (.if_icmp .le 13, 3) := by decide +kernel
theorem dX9_piece_20 : decode cX9_piece 20 = .ok (.new 109, 3) := by decide +kernel
theorem dX9_piece_23 : decode cX9_piece 23 = .ok (.dup, 1) := by decide +kernel
theorem dX9_piece_24 : decode cX9_piece 24 = .ok (.ldc 230, 2) := by decide +kernel
theorem dX9_piece_26 : decode cX9_piece 26 = .ok (.invokespecial 113, 3) := by decide +kernel
theorem dX9_piece_29 : decode cX9_piece 29 = .ok (.athrow, 1) := by decide +kernel
theorem dX9_piece_30 : decode cX9_piece 30 = .ok (.aload_n 0, 1) := by decide +kernel
theorem dX9_piece_31 : decode cX9_piece 31 = .ok (.getfield 60, 3) := by decide +kernel
theorem dX9_piece_34 : decode cX9_piece 34 = .ok (.iload_n 1, 1) := by decide +kernel
theorem dX9_piece_35 : decode cX9_piece 35 = .ok (.iload_n 2, 1) := by decide +kernel
theorem dX9_piece_36 : decode cX9_piece 36 = .ok (.invokevirtual 232, 3) := by decide +kernel
theorem dX9_piece_39 : decode cX9_piece 39 = .ok (.ireturn, 1) := by decide +kernel
theorem dX9_score_0 : decode cX9_score 0 = .ok (.iconst 0, 1) := by decide +kernel
theorem dX9_score_1 : decode cX9_score 1 = .ok (.istore_n 1, 1) := by decide +kernel
theorem dX9_score_2 : decode cX9_score 2 = .ok (.iconst 0, 1) := by decide +kernel
theorem dX9_score_3 : decode cX9_score 3 = .ok (.istore_n 2, 1) := by decide +kernel
theorem dX9_score_4 : decode cX9_score 4 = .ok (.iload_n 2, 1) := by decide +kernel
theorem dX9_score_5 : decode cX9_score 5 = .ok (.aload_n 0, 1) := by decide +kernel
theorem dX9_score_6 : decode cX9_score 6 = .ok (.getfield 28, 3) := by decide +kernel
theorem dX9_score_9 : decode cX9_score 9 = .ok (.getfield 235, 3) := by decide +kernel
theorem dX9_score_12 : decode cX9_score 12 = .ok (.if_icmp .ge 39, 3) := by decide +kernel
theorem dX9_score_15 : decode cX9_score 15 = .ok (.aload_n 0, 1) := by decide +kernel
theorem dX9_score_16 : decode cX9_score 16 = .ok (.getfield 28, 3) := by decide +kernel
theorem dX9_score_19 : decode cX9_score 19 = .ok (.iload_n 2, 1) := by decide +kernel
theorem dX9_score_20 : decode cX9_score 20 = .ok (.aload_n 0, 1) := by decide +kernel
theorem dX9_score_21 : decode cX9_score 21 = .ok (.getfield 60, 3) := by decide +kernel
theorem dX9_score_24 : decode cX9_score 24 = .ok (.iload_n 2, 1) := by decide +kernel
theorem dX9_score_25 : decode cX9_score 25 = .ok (.invokevirtual 238, 3) := by decide +kernel
theorem dX9_score_28 : decode cX9_score 28 = .ok (.invokevirtual 241, 3) := by decide +kernel
theorem dX9_score_31 : decode cX9_score 31 = .ok (.ifCond .eq 14, 3) := by decide +kernel
theorem dX9_score_34 : decode cX9_score 34 = .ok (.iload_n 1, 1) := by decide +kernel
theorem dX9_score_35 : decode cX9_score 35 = .ok (.aload_n 0, 1) := by decide +kernel
theorem dX9_score_36 : decode cX9_score 36 = .ok (.getfield 28, 3) := by decide +kernel
theorem dX9_score_39 : decode cX9_score 39 = .ok (.iload_n 2, 1) := by decide +kernel
theorem dX9_score_40 : decode cX9_score 40 = .ok (.invokevirtual 244, 3) := by decide +kernel
theorem dX9_score_43 : decode cX9_score 43 = .ok (.iadd, 1) := by decide +kernel
theorem dX9_score_44 : decode cX9_score 44 = .ok (.istore_n 1, 1) := by decide +kernel
theorem dX9_score_45 : decode cX9_score 45 = .ok (.iinc 2 1, 3) := by decide +kernel
theorem dX9_score_48 : decode cX9_score 48 = .ok (.goto (-44), 3) := by decide +kernel
theorem dX9_score_51 : decode cX9_score 51 = .ok (.iload_n 1, 1) := by decide +kernel
theorem dX9_score_52 : decode cX9_score 52 = .ok (.ireturn, 1) := by decide +kernel
theorem dX9_put_0 : decode cX9_put 0 = .ok (.iload_n 1, 1) := by decide +kernel
theorem dX9_put_1 : decode cX9_put 1 = .ok (.ifCond .lt 14, 3) := by decide +kernel
theorem dX9_put_4 : decode cX9_put 4 = .ok (.iload_n 1, 1) := by decide +kernel
theorem dX9_put_5 : decode cX9_put 5 = .ok (.aload_n 0, 1) := by decide +kernel
theorem dX9_put_6 : decode cX9_put 6 = .ok (.getfield 70, 3) := by decide +kernel
theorem dX9_put_9 : decode cX9_put 9 = .ok (.getfield 247, 3) := by decide +kernel
theorem dX9_put_12 : decode cX9_put 12 = .ok (.if_icmp .le 13, 3) := by decide +kernel
theorem dX9_put_15 : decode cX9_put 15 = .ok (.new 109, 3) := by decide +kernel
theorem dX9_put_18 : decode cX9_put 18 = .ok (.dup, 1) := by decide +kernel
theorem dX9_put_19 : decode cX9_put 19 = .ok (.ldc 248, 2) := by decide +kernel
theorem dX9_put_21 : decode cX9_put 21 = .ok (.invokespecial 113, 3) := by decide +kernel
theorem dX9_put_24 : decode cX9_put 24 = .ok (.athrow, 1) := by decide +kernel
theorem dX9_put_25 : decode cX9_put 25 = .ok (.aload_n 0, 1) := by decide +kernel
theorem dX9_put_26 : decode cX9_put 26 = .ok (.iload_n 2, 1) := by decide +kernel
theorem dX9_put_27 : decode cX9_put 27 = .ok (.iload_n 3, 1) := by decide +kernel
theorem dX9_put_28 : decode cX9_put 28 = .ok (.iload 4, 2) := by decide +kernel
theorem dX9_put_30 : decode cX9_put 30 = .ok (.invokevirtual 250, 3) := by decide +kernel
theorem dX9_put_33 : decode cX9_put 33 = .ok (.ifCond .ne 13, 3) := by decide +kernel
theorem dX9_put_36 : decode cX9_put 36 = .ok (.new 88, 3) := by decide +kernel
theorem dX9_put_39 : decode cX9_put 39 = .ok (.dup, 1) := by decide +kernel
theorem dX9_put_40 : decode cX9_put 40 = .ok (.ldc 254, 2) := by decide +kernel
theorem dX9_put_42 : decode cX9_put 42 = .ok (.invokespecial 92, 3) := by decide +kernel
theorem dX9_put_45 : decode cX9_put 45 = .ok (.athrow, 1) := by decide +kernel
theorem dX9_put_46 : decode cX9_put 46 = .ok (.aload_n 0, 1) := by decide +kernel
theorem dX9_put_47 : decode cX9_put 47 = .ok (.getfield 70, 3) := by decide +kernel
theorem dX9_put_50 : decode cX9_put 50 = .ok (.iconst 1, 1) := by decide +kernel
theorem dX9_put_51 : decode cX9_put 51 = .ok (.invokevirtual 256, 3) := by decide +kernel
theorem dX9_put_54 : decode cX9_put 54 = .ok (.ifCond .ne 14, 3) := by decide +kernel
theorem dX9_put_57 : decode cX9_put 57 = .ok (.new 162, 3) := by decide +kernel
theorem dX9_put_60 : decode cX9_put 60 = .ok (.dup, 1) := by decide +kernel
theorem dX9_put_61 : decode cX9_put 61 = .ok (.ldc_w 259, 3) := by decide +kernel
theorem dX9_put_64 : decode cX9_put 64 = .ok (.invokespecial 166, 3) := by decide +kernel
theorem dX9_put_67 : decode cX9_put 67 = .ok (.athrow, 1) := by decide +kernel
theorem dX9_put_68 : decode cX9_put 68 = .ok (.aload_n 0, 1) := by decide +kernel
theorem dX9_put_69 : decode cX9_put 69 = .ok (.getfield 70, 3) := by decide +kernel
theorem dX9_put_72 : decode cX9_put 72 = .ok (.iload_n 1, 1) := by decide +kernel
theorem dX9_put_73 : decode cX9_put 73 = .ok (.iload_n 2, 1) := by decide +kernel
theorem dX9_put_74 : decode cX9_put 74 = .ok (.iload_n 3, 1) := by decide +kernel
theorem dX9_put_75 : decode cX9_put 75 = .ok (.iload 4, 2) := by decide +kernel
theorem dX9_put_77 : decode cX9_put 77 = .ok (.invokevirtual 261, 3) := by decide +kernel
theorem dX9_put_80 : decode cX9_put 80 = .ok (.aload_n 0, 1) := by decide +kernel
theorem dX9_put_81 : decode cX9_put 81 = .ok (.getfield 70, 3) := by decide +kernel
theorem dX9_put_84 : decode cX9_put 84 = .ok (.getfield 247, 3) := by decide +kernel
theorem dX9_put_87 : decode cX9_put 87 = .ok (.ireturn, 1) := by decide +kernel
theorem dX9_remove_0 : decode cX9_remove 0 = .ok (.aload_n 0, 1) := by decide +kernel
theorem dX9_remove_1 : decode cX9_remove 1 = .ok (.getfield 70, 3) := by decide +kernel
theorem dX9_remove_4 : decode cX9_remove 4 = .ok (.iload_n 1, 1) := by decide +kernel
theorem dX9_remove_5 : decode cX9_remove 5 = .ok (.invokevirtual 265, 3) := by decide +kernel
theorem dX9_remove_8 : decode cX9_remove 8 = .ok (.ifCond .ne 13, 3) := by decide +kernel
theorem dX9_remove_11 : decode cX9_remove 11 = .ok (.new 109, 3) := by decide +kernel
theorem dX9_remove_14 : decode cX9_remove 14 = .ok (.dup, 1) := by decide +kernel
theorem dX9_remove_15 : decode cX9_remove 15 = .ok (.ldc 254, 2) := by decide +kernel
theorem dX9_remove_17 : decode cX9_remove 17 = .ok (.invokespecial 113, 3) := by decide +kernel
theorem dX9_remove_20 : decode cX9_remove 20 = .ok (.athrow, 1) := by decide +kernel
theorem dX9_remove_21 : decode cX9_remove 21 = .ok (.aload_n 0, 1) := by decide +kernel
theorem dX9_remove_22 : decode cX9_remove 22 = .ok (.getfield 70, 3) := by decide +kernel
theorem dX9_remove_25 : decode cX9_remove 25 = .ok (.iload_n 1, 1) := by decide +kernel
theorem dX9_remove_26 : decode cX9_remove 26 = .ok (.iconst 0, 1) := by decide +kernel
theorem dX9_remove_27 : decode cX9_remove 27 = .ok (.invokevirtual 266, 3) := by decide +kernel
theorem dX9_remove_30 : decode cX9_remove 30 = .ok (.istore_n 2, 1) := by decide +kernel
theorem dX9_remove_31 : decode cX9_remove 31 = .ok (.aload_n 0, 1) := by decide +kernel
theorem dX9_remove_32 : decode cX9_remove 32 = .ok (.getfield 70, 3) := by decide +kernel
theorem dX9_remove_35 : decode cX9_remove 35 = .ok (.iload_n 1, 1) := by decide +kernel
theorem dX9_remove_36 : decode cX9_remove 36 = .ok (.invokevirtual 268, 3) := by decide +kernel
theorem dX9_remove_39 : decode cX9_remove 39 = .ok (.iload_n 2, 1) := by decide +kernel
theorem dX9_remove_40 : decode cX9_remove 40 = .ok (.ireturn, 1) := by decide +kernel
theorem dX9_move_0 : decode cX9_move 0 = .ok (.aload_n 0, 1) := by decide +kernel
theorem dX9_move_1 : decode cX9_move 1 = .ok (.getfield 70, 3) := by decide +kernel
theorem dX9_move_4 : decode cX9_move 4 = .ok (.iload_n 1, 1) := by decide +kernel
theorem dX9_move_5 : decode cX9_move 5 = .ok (.invokevirtual 265, 3) := by decide +kernel
theorem dX9_move_8 : decode cX9_move 8 = .ok (.ifCond .eq 14, 3) := by decide +kernel
theorem dX9_move_11 : decode cX9_move 11 = .ok (.aload_n 0, 1) := by decide +kernel
theorem dX9_move_12 : decode cX9_move 12 = .ok (.getfield 70, 3) := by decide +kernel
theorem dX9_move_15 : decode cX9_move 15 = .ok (.iload_n 2, 1) := by decide +kernel
theorem dX9_move_16 : decode cX9_move 16 = .ok (.invokevirtual 265, 3) := by decide +kernel
theorem dX9_move_19 : decode cX9_move 19 = .ok (.ifCond .ne 14, 3) := by decide +kernel
theorem dX9_move_22 : decode cX9_move 22 = .ok (.new 109, 3) := by decide +kernel
theorem dX9_move_25 : decode cX9_move 25 = .ok (.dup, 1) := by decide +kernel
theorem dX9_move_26 : decode cX9_move 26 = .ok (.ldc_w 271, 3) := by decide +kernel
theorem dX9_move_29 : decode cX9_move 29 = .ok (.invokespecial 113, 3) := by decide +kernel
theorem dX9_move_32 : decode cX9_move 32 = .ok (.athrow, 1) := by decide +kernel
theorem dX9_move_33 : decode cX9_move 33 = .ok (.aload_n 0, 1) := by decide +kernel
theorem dX9_move_34 : decode cX9_move 34 = .ok (.getfield 70, 3) := by decide +kernel
theorem dX9_move_37 : decode cX9_move 37 = .ok (.iload_n 1, 1) := by decide +kernel
theorem dX9_move_38 : decode cX9_move 38 = .ok (.iconst 0, 1) := by decide +kernel
theorem dX9_move_39 : decode cX9_move 39 = .ok (.invokevirtual 266, 3) := by decide +kernel
theorem dX9_move_42 : decode cX9_move 42 = .ok (.istore_n 3, 1) := by decide +kernel
theorem dX9_move_43 : decode cX9_move 43 = .ok (.aload_n 0, 1) := by decide +kernel
theorem dX9_move_44 : decode cX9_move 44 = .ok (.getfield 70, 3) := by decide +kernel
theorem dX9_move_47 : decode cX9_move 47 = .ok (.iload_n 1, 1) := by decide +kernel
theorem dX9_move_48 : decode cX9_move 48 = .ok (.iconst 1, 1) := by decide +kernel
theorem dX9_move_49 : decode cX9_move 49 = .ok (.invokevirtual 266, 3) := by decide +kernel
theorem dX9_move_52 : decode cX9_move 52 = .ok (.istore 4, 2) := by decide +kernel
theorem dX9_move_54 : decode cX9_move 54 = .ok (.aload_n 0, 1) := by decide +kernel
theorem dX9_move_55 : decode cX9_move 55 = .ok (.getfield 70, 3) := by decide +kernel
theorem dX9_move_58 : decode cX9_move 58 = .ok (.iload_n 1, 1) := by decide +kernel
theorem dX9_move_59 : decode cX9_move 59 = .ok (.iconst 2, 1) := by decide +kernel
theorem dX9_move_60 : decode cX9_move 60 = .ok (.invokevirtual 266, 3) := by decide +kernel
theorem dX9_move_63 : decode cX9_move 63 = .ok (.istore 5, 2) := by decide +kernel
theorem dX9_move_65 : decode cX9_move 65 = .ok (.aload_n 0, 1) := by decide +kernel
theorem dX9_move_66 : decode cX9_move 66 = .ok (.getfield 70, 3) := by decide +kernel
theorem dX9_move_69 : decode cX9_move 69 = .ok (.iload_n 1, 1) := by decide +kernel
theorem dX9_move_70 : decode cX9_move 70 = .ok (.invokevirtual 268, 3) := by decide +kernel
theorem dX9_move_73 : decode cX9_move 73 = .ok (.aload_n 0, 1) := by decide +kernel
theorem dX9_move_74 : decode cX9_move 74 = .ok (.getfield 70, 3) := by decide +kernel
theorem dX9_move_77 : decode cX9_move 77 = .ok (.iload_n 2, 1) := by decide +kernel
theorem dX9_move_78 : decode cX9_move 78 = .ok (.iload_n 3, 1) := by decide +kernel
theorem dX9_move_79 : decode cX9_move 79 = .ok (.iload 4, 2) := by decide +kernel
theorem dX9_move_81 : decode cX9_move 81 = .ok (.iload 5, 2) := by decide +kernel
theorem dX9_move_83 : decode cX9_move 83 = .ok (.invokevirtual 261, 3) := by decide +kernel
theorem dX9_move_86 : decode cX9_move 86 = .ok (.iload_n 3, 1) := by decide +kernel
theorem dX9_move_87 : decode cX9_move 87 = .ok (.ireturn, 1) := by decide +kernel
theorem dX9_activity_0 : decode cX9_activity 0 = .ok (.aload_n 0, 1) := by decide +kernel
theorem dX9_activity_1 : decode cX9_activity 1 = .ok (.getfield 70, 3) := by decide +kernel
theorem dX9_activity_4 : decode cX9_activity 4 = .ok (.iload_n 1, 1) := by decide +kernel
theorem dX9_activity_5 : decode cX9_activity 5 = .ok (.invokevirtual 265, 3) := by decide +kernel
theorem dX9_activity_8 : decode cX9_activity 8 = .ok (.ifCond .eq 12, 3) := by decide +kernel
theorem dX9_activity_11 : decode cX9_activity 11 = .ok (.iload_n 2, 1) := by decide +kernel
theorem dX9_activity_12 : decode cX9_activity 12 = .ok (.ifCond .lt 8, 3) := by decide +kernel
theorem dX9_activity_15 : decode cX9_activity 15 = .ok (.iload_n 2, 1) := by decide +kernel
theorem dX9_activity_16 : decode cX9_activity 16 = .ok (.iconst 2, 1) := by decide +kernel
theorem dX9_activity_17 : decode cX9_activity 17 = .ok (.if_icmp .le 14, 3) := by decide +kernel
theorem dX9_activity_20 : decode cX9_activity 20 = .ok (.new 109, 3) := by decide +kernel
theorem dX9_activity_23 : decode cX9_activity 23 = .ok (.dup, 1) := by decide +kernel
theorem dX9_activity_24 : decode cX9_activity 24 = .ok (.ldc_w 273, 3) := by decide +kernel
theorem dX9_activity_27 : decode cX9_activity 27 = .ok (.invokespecial 113, 3) := by decide +kernel
theorem dX9_activity_30 : decode cX9_activity 30 = .ok (.athrow, 1) := by decide +kernel
theorem dX9_activity_31 : decode cX9_activity 31 = .ok (.aload_n 0, 1) := by decide +kernel
theorem dX9_activity_32 : decode cX9_activity 32 = .ok (.getfield 70, 3) := by decide +kernel
theorem dX9_activity_35 : decode cX9_activity 35 = .ok (.iload_n 1, 1) := by decide +kernel
theorem dX9_activity_36 : decode cX9_activity 36 = .ok (.iload_n 2, 1) := by decide +kernel
theorem dX9_activity_37 : decode cX9_activity 37 = .ok (.invokevirtual 266, 3) := by decide +kernel
theorem dX9_activity_40 : decode cX9_activity 40 = .ok (.ireturn, 1) := by decide +kernel
theorem dX9_count_0 : decode cX9_count 0 = .ok (.iload_n 1, 1) := by decide +kernel
theorem dX9_count_1 : decode cX9_count 1 = .ok (.ifCond .lt 8, 3) := by decide +kernel
theorem dX9_count_4 : decode cX9_count 4 = .ok (.iload_n 1, 1) := by decide +kernel
theorem dX9_count_5 : decode cX9_count 5 = .ok (.iconst 3, 1) := by decide +kernel
theorem dX9_count_6 : decode cX9_count 6 = .ok (.if_icmp .le 13, 3) := by decide +kernel
theorem dX9_count_9 : decode cX9_count 9 = .ok (.new 109, 3) := by decide +kernel
theorem dX9_count_12 : decode cX9_count 12 = .ok (.dup, 1) := by decide +kernel
theorem dX9_count_13 : decode cX9_count 13 = .ok (.ldc 223, 2) := by decide +kernel
theorem dX9_count_15 : decode cX9_count 15 = .ok (.invokespecial 113, 3) := by decide +kernel
theorem dX9_count_18 : decode cX9_count 18 = .ok (.athrow, 1) := by decide +kernel
theorem dX9_count_19 : decode cX9_count 19 = .ok (.aload_n 0, 1) := by decide +kernel
theorem dX9_count_20 : decode cX9_count 20 = .ok (.iload_n 1, 1) := by decide +kernel
theorem dX9_count_21 : decode cX9_count 21 = .ok (.invokevirtual 275, 3) := by decide +kernel
theorem dX9_count_24 : decode cX9_count 24 = .ok (.ireturn, 1) := by decide +kernel
theorem dX9_check_0 : decode cX9_check 0 = .ok (.aload_n 0, 1) := by decide +kernel
theorem dX9_check_1 : decode cX9_check 1 = .ok (.aload_n 0, 1) := by decide +kernel
theorem dX9_check_2 : decode cX9_check 2 = .ok (.getfield 70, 3) := by decide +kernel
theorem dX9_check_5 : decode cX9_check 5 = .ok (.getfield 247, 3) := by decide +kernel
theorem dX9_check_8 : decode cX9_check 8 = .ok (.invokevirtual 278, 3) := by decide +kernel
theorem dX9_check_11 : decode cX9_check 11 = .ok (.istore_n 1, 1) := by decide +kernel
theorem dX9_check_12 : decode cX9_check 12 = .ok (.iload_n 1, 1) := by decide +kernel
theorem dX9_check_13 : decode cX9_check 13 = .ok (.aload_n 0, 1) := by decide +kernel
theorem dX9_check_14 : decode cX9_check 14 = .ok (.getfield 70, 3) := by decide +kernel
theorem dX9_check_17 : decode cX9_check 17 = .ok (.getfield 247, 3) := by decide +kernel
theorem dX9_check_20 : decode cX9_check 20 = .ok (.if_icmp .ge 7, 3) := by decide +kernel
theorem dX9_check_23 : decode cX9_check 23 = .ok (.iload_n 1, 1) := by decide +kernel
theorem dX9_check_24 : decode cX9_check 24 = .ok (.goto 4, 3) := by decide +kernel
theorem dX9_check_27 : decode cX9_check 27 = .ok (.iconst (-1), 1) := by decide +kernel
theorem dX9_check_28 : decode cX9_check 28 = .ok (.ireturn, 1) := by decide +kernel
theorem dX9_reason_0 : decode cX9_reason 0 = .ok (.aload_n 0, 1) := by decide +kernel
theorem dX9_reason_1 : decode cX9_reason 1 = .ok (.aload_n 0, 1) := by decide +kernel
theorem dX9_reason_2 : decode cX9_reason 2 = .ok (.getfield 70, 3) := by decide +kernel
theorem dX9_reason_5 : decode cX9_reason 5 = .ok (.getfield 247, 3) := by decide +kernel
theorem dX9_reason_8 : decode cX9_reason 8 = .ok (.invokevirtual 278, 3) := by decide +kernel
theorem dX9_reason_11 : decode cX9_reason 11 = .ok (.pop, 1) := by decide +kernel
theorem dX9_reason_12 : decode cX9_reason 12 = .ok (.aload_n 0, 1) := by decide +kernel
theorem dX9_reason_13 : decode cX9_reason 13 = .ok (.getfield 44, 3) := by decide +kernel
theorem dX9_reason_16 : decode cX9_reason 16 = .ok (.getfield 281, 3) := by decide +kernel
theorem dX9_reason_19 : decode cX9_reason 19 = .ok (.ireturn, 1) := by decide +kernel
theorem dX9_foretell_0 : decode cX9_foretell 0 = .ok (.iload_n 2, 1) := by decide +kernel
theorem dX9_foretell_1 : decode cX9_foretell 1 = .ok (.ifCond .lt 9, 3) := by decide +kernel
theorem dX9_foretell_4 : decode cX9_foretell 4 = .ok (.iload_n 2, 1) := by decide +kernel
theorem dX9_foretell_5 : decode cX9_foretell 5 = .ok (.bipush 9, 2) := by decide +kernel
theorem dX9_foretell_7 : decode cX9_foretell 7 = .ok (.if_icmp .le 13, 3) := by decide +kernel
theorem dX9_foretell_10 : decode cX9_foretell 10 = .ok (.new 109, 3) := by decide +kernel
theorem dX9_foretell_13 : decode cX9_foretell 13 = .ok (.dup, 1) := by decide +kernel
theorem dX9_foretell_14 : decode cX9_foretell 14 = .ok (.ldc 223, 2) := by decide +kernel
theorem dX9_foretell_16 : decode cX9_foretell 16 = .ok (.invokespecial 113, 3) := by decide +kernel
theorem dX9_foretell_19 : decode cX9_foretell 19 = .ok (.athrow, 1) := by decide +kernel
theorem dX9_foretell_20 : decode cX9_foretell 20 = .ok (.iload_n 1, 1) := by decide +kernel
theorem dX9_foretell_21 : decode cX9_foretell 21 = .ok (.ifCond .lt 14, 3) := by decide +kernel
theorem dX9_foretell_24 : decode cX9_foretell 24 = .ok (.iload_n 1, 1) := by decide +kernel
theorem dX9_foretell_25 : decode cX9_foretell 25 = .ok (.aload_n 0, 1) := by decide +kernel
theorem dX9_foretell_26 : decode cX9_foretell 26 = .ok (.getfield 70, 3) := by decide +kernel
theorem dX9_foretell_29 : decode cX9_foretell 29 = .ok (.getfield 247, 3) := by decide +kernel
theorem dX9_foretell_32 : decode cX9_foretell 32 = .ok (.if_icmp .le 14, 3) := by decide +kernel
theorem dX9_foretell_35 : decode cX9_foretell 35 = .ok (.new 88, 3) := by decide +kernel
theorem dX9_foretell_38 : decode cX9_foretell 38 = .ok (.dup, 1) := by decide +kernel
theorem dX9_foretell_39 : decode cX9_foretell 39 = .ok (.ldc_w 284, 3) := by decide +kernel
theorem dX9_foretell_42 : decode cX9_foretell 42 = .ok (.invokespecial 92, 3) := by decide +kernel
theorem dX9_foretell_45 : decode cX9_foretell 45 = .ok (.athrow, 1) := by decide +kernel
theorem dX9_foretell_46 : decode cX9_foretell 46 = .ok (.aload_n 0, 1) := by decide +kernel
theorem dX9_foretell_47 : decode cX9_foretell 47 = .ok (.iload_n 1, 1) := by decide +kernel
theorem dX9_foretell_48 : decode cX9_foretell 48 = .ok (.invokevirtual 278, 3) := by decide +kernel
theorem dX9_foretell_51 : decode cX9_foretell 51 = .ok (.iload_n 1, 1) := by decide +kernel
theorem dX9_foretell_52 : decode cX9_foretell 52 = .ok (.if_icmp .ge 14, 3) := by decide +kernel
theorem dX9_foretell_55 : decode cX9_foretell 55 = .ok (.new 162, 3) := by decide +kernel
theorem dX9_foretell_58 : decode cX9_foretell 58 = .ok (.dup, 1) := by decide +kernel
theorem dX9_foretell_59 : decode cX9_foretell 59 = .ok (.ldc_w 286, 3) := by decide +kernel
theorem dX9_foretell_62 : decode cX9_foretell 62 = .ok (.invokespecial 166, 3) := by decide +kernel
theorem dX9_foretell_65 : decode cX9_foretell 65 = .ok (.athrow, 1) := by decide +kernel
theorem dX9_foretell_66 : decode cX9_foretell 66 = .ok (.aload_n 0, 1) := by decide +kernel
theorem dX9_foretell_67 : decode cX9_foretell 67 = .ok (.getfield 64, 3) := by decide +kernel
theorem dX9_foretell_70 : decode cX9_foretell 70 = .ok (.iload_n 2, 1) := by decide +kernel
theorem dX9_foretell_71 : decode cX9_foretell 71 = .ok (.invokevirtual 225, 3) := by decide +kernel
theorem dX9_foretell_74 : decode cX9_foretell 74 = .ok (.ireturn, 1) := by decide +kernel
theorem dX9_run_0 : decode cX9_run 0 = .ok (.iload_n 1, 1) := by decide +kernel
theorem dX9_run_1 : decode cX9_run 1 = .ok (.iconst 1, 1) := by decide +kernel
theorem dX9_run_2 : decode cX9_run 2 = .ok (.if_icmp .lt 9, 3) := by decide +kernel
theorem dX9_run_5 : decode cX9_run 5 = .ok (.iload_n 1, 1) := by decide +kernel
theorem dX9_run_6 : decode cX9_run 6 = .ok (.bipush 40, 2) := by decide +kernel
theorem dX9_run_8 : decode cX9_run 8 = .ok (.if_icmp .le 14, 3) := by decide +kernel
theorem dX9_run_11 : decode cX9_run 11 = .ok (.new 88, 3) := by decide +kernel
theorem dX9_run_14 : decode cX9_run 14 = .ok (.dup, 1) := by decide +kernel
theorem dX9_run_15 : decode cX9_run 15 = .ok (.ldc_w 284, 3) := by decide +kernel
theorem dX9_run_18 : decode cX9_run 18 = .ok (.invokespecial 92, 3) := by decide +kernel
theorem dX9_run_21 : decode cX9_run 21 = .ok (.athrow, 1) := by decide +kernel
theorem dX9_run_22 : decode cX9_run 22 = .ok (.aload_n 0, 1) := by decide +kernel
theorem dX9_run_23 : decode cX9_run 23 = .ok (.getfield 44, 3) := by decide +kernel
theorem dX9_run_26 : decode cX9_run 26 = .ok (.aload_n 0, 1) := by decide +kernel
theorem dX9_run_27 : decode cX9_run 27 = .ok (.getfield 60, 3) := by decide +kernel
theorem dX9_run_30 : decode cX9_run 30 = .ok (.aload_n 0, 1) := by decide +kernel
theorem dX9_run_31 : decode cX9_run 31 = .ok (.getfield 70, 3) := by decide +kernel
theorem dX9_run_34 : decode cX9_run 34 = .ok (.iload_n 1, 1) := by decide +kernel
theorem dX9_run_35 : decode cX9_run 35 = .ok (.invokevirtual 288, 3) := by decide +kernel
theorem dX9_run_38 : decode cX9_run 38 = .ok (.istore_n 2, 1) := by decide +kernel
theorem dX9_run_39 : decode cX9_run 39 = .ok (.iconst 0, 1) := by decide +kernel
theorem dX9_run_40 : decode cX9_run 40 = .ok (.istore_n 3, 1) := by decide +kernel
theorem dX9_run_41 : decode cX9_run 41 = .ok (.iload_n 3, 1) := by decide +kernel
theorem dX9_run_42 : decode cX9_run 42 = .ok (.iload_n 2, 1) := by decide +kernel
theorem dX9_run_43 : decode cX9_run 43 = .ok (.if_icmp .ge 17, 3) := by decide +kernel
theorem dX9_run_46 : decode cX9_run 46 = .ok (.aload_n 0, 1) := by decide +kernel
theorem dX9_run_47 : decode cX9_run 47 = .ok (.getfield 70, 3) := by decide +kernel
theorem dX9_run_50 : decode cX9_run 50 = .ok (.iconst 0, 1) := by decide +kernel
theorem dX9_run_51 : decode cX9_run 51 = .ok (.invokevirtual 268, 3) := by decide +kernel
theorem dX9_run_54 : decode cX9_run 54 = .ok (.iinc 3 1, 3) := by decide +kernel
theorem dX9_run_57 : decode cX9_run 57 = .ok (.goto (-16), 3) := by decide +kernel
theorem dX9_run_60 : decode cX9_run 60 = .ok (.iload_n 2, 1) := by decide +kernel
theorem dX9_run_61 : decode cX9_run 61 = .ok (.ireturn, 1) := by decide +kernel
theorem dX9_make_0 : decode cX9_make 0 = .ok (.iload_n 1, 1) := by decide +kernel
theorem dX9_make_1 : decode cX9_make 1 = .ok (.iconst 1, 1) := by decide +kernel
theorem dX9_make_2 : decode cX9_make 2 = .ok (.if_icmp .lt 10, 3) := by decide +kernel
theorem dX9_make_5 : decode cX9_make 5 = .ok (.iload_n 1, 1) := by decide +kernel
theorem dX9_make_6 : decode cX9_make 6 = .ok (.sipush 2880, 3) := by decide +kernel
theorem dX9_make_9 : decode cX9_make 9 = .ok (.if_icmp .le 14, 3) := by decide +kernel
theorem dX9_make_12 : decode cX9_make 12 = .ok (.new 88, 3) := by decide +kernel
theorem dX9_make_15 : decode cX9_make 15 = .ok (.dup, 1) := by decide +kernel
theorem dX9_make_16 : decode cX9_make 16 = .ok (.ldc_w 292, 3) := by decide +kernel
theorem dX9_make_19 : decode cX9_make 19 = .ok (.invokespecial 92, 3) := by decide +kernel
theorem dX9_make_22 : decode cX9_make 22 = .ok (.athrow, 1) := by decide +kernel
theorem dX9_make_23 : decode cX9_make 23 = .ok (.aload_n 0, 1) := by decide +kernel
theorem dX9_make_24 : decode cX9_make 24 = .ok (.aload_n 0, 1) := by decide +kernel
theorem dX9_make_25 : decode cX9_make 25 = .ok (.getfield 70, 3) := by decide +kernel
theorem dX9_make_28 : decode cX9_make 28 = .ok (.getfield 247, 3) := by decide +kernel
theorem dX9_make_31 : decode cX9_make 31 = .ok (.invokevirtual 278, 3) := by decide +kernel
theorem dX9_make_34 : decode cX9_make 34 = .ok (.aload_n 0, 1) := by decide +kernel
theorem dX9_make_35 : decode cX9_make 35 = .ok (.getfield 70, 3) := by decide +kernel
theorem dX9_make_38 : decode cX9_make 38 = .ok (.getfield 247, 3) := by decide +kernel
theorem dX9_make_41 : decode cX9_make 41 = .ok (.if_icmp .ge 5, 3) := by decide +kernel
theorem dX9_make_44 : decode cX9_make 44 = .ok (.iconst 0, 1) := by decide +kernel
theorem dX9_make_45 : decode cX9_make 45 = .ok (.ireturn, 1) := by decide +kernel
theorem dX9_make_46 : decode cX9_make 46 = .ok (.aload_n 0, 1) := by decide +kernel
theorem dX9_make_47 : decode cX9_make 47 = .ok (.getfield 53, 3) := by decide +kernel
theorem dX9_make_50 : decode cX9_make 50 = .ok (.aload_n 0, 1) := by decide +kernel
theorem dX9_make_51 : decode cX9_make 51 = .ok (.getfield 70, 3) := by decide +kernel
theorem dX9_make_54 : decode cX9_make 54 = .ok (.aload_n 0, 1) := by decide +kernel
theorem dX9_make_55 : decode cX9_make 55 = .ok (.getfield 64, 3) := by decide +kernel
theorem dX9_make_58 : decode cX9_make 58 = .ok (.iload_n 1, 1) := by decide +kernel
theorem dX9_make_59 : decode cX9_make 59 = .ok (.invokevirtual 294, 3) := by decide +kernel
theorem dX9_make_62 : decode cX9_make 62 = .ok (.ireturn, 1) := by decide +kernel
theorem dX9_nearest_0 : decode cX9_nearest 0 = .ok (.aload_n 0, 1) := by decide +kernel
theorem dX9_nearest_1 : decode cX9_nearest 1 = .ok (.getfield 28, 3) := by decide +kernel
theorem dX9_nearest_4 : decode cX9_nearest 4 = .ok (.iload_n 1, 1) := by decide +kernel
theorem dX9_nearest_5 : decode cX9_nearest 5 = .ok (.invokevirtual 171, 3) := by decide +kernel
theorem dX9_nearest_8 : decode cX9_nearest 8 = .ok (.ifCond .ne 14, 3) := by decide +kernel
theorem dX9_nearest_11 : decode cX9_nearest 11 = .ok (.new 109, 3) := by decide +kernel
theorem dX9_nearest_14 : decode cX9_nearest 14 = .ok (.dup, 1) := by decide +kernel
theorem dX9_nearest_15 : decode cX9_nearest 15 = .ok (.ldc_w 298, 3) := by decide +kernel
theorem dX9_nearest_18 : decode cX9_nearest 18 = .ok (.invokespecial 113, 3) := by decide +kernel
theorem dX9_nearest_21 : decode cX9_nearest 21 = .ok (.athrow, 1) := by decide +kernel
theorem dX9_nearest_22 : decode cX9_nearest 22 = .ok (.aload_n 0, 1) := by decide +kernel
theorem dX9_nearest_23 : decode cX9_nearest 23 = .ok (.getfield 21, 3) := by decide +kernel
theorem dX9_nearest_26 : decode cX9_nearest 26 = .ok (.aload_n 0, 1) := by decide +kernel
theorem dX9_nearest_27 : decode cX9_nearest 27 = .ok (.getfield 60, 3) := by decide +kernel
theorem dX9_nearest_30 : decode cX9_nearest 30 = .ok (.getfield 300, 3) := by decide +kernel
theorem dX9_nearest_33 : decode cX9_nearest 33 = .ok (.aload_n 0, 1) := by decide +kernel
theorem dX9_nearest_34 : decode cX9_nearest 34 = .ok (.getfield 60, 3) := by decide +kernel
theorem dX9_nearest_37 : decode cX9_nearest 37 = .ok (.getfield 303, 3) := by decide +kernel
theorem dX9_nearest_40 : decode cX9_nearest 40 = .ok (.invokestatic 134, 3) := by decide +kernel
theorem dX9_nearest_43 : decode cX9_nearest 43 = .ok (.invokevirtual 306, 3) := by decide +kernel
theorem dX9_nearest_46 : decode cX9_nearest 46 = .ok (.aload_n 0, 1) := by decide +kernel
theorem dX9_nearest_47 : decode cX9_nearest 47 = .ok (.getfield 53, 3) := by decide +kernel
theorem dX9_nearest_50 : decode cX9_nearest 50 = .ok (.aload_n 0, 1) := by decide +kernel
theorem dX9_nearest_51 : decode cX9_nearest 51 = .ok (.getfield 60, 3) := by decide +kernel
theorem dX9_nearest_54 : decode cX9_nearest 54 = .ok (.iload_n 1, 1) := by decide +kernel
theorem dX9_nearest_55 : decode cX9_nearest 55 = .ok (.invokevirtual 309, 3) := by decide +kernel
theorem dX9_nearest_58 : decode cX9_nearest 58 = .ok (.istore_n 2, 1) := by decide +kernel
theorem dX9_nearest_59 : decode cX9_nearest 59 = .ok (.iload_n 2, 1) := by decide +kernel
theorem dX9_nearest_60 : decode cX9_nearest 60 = .ok (.iconst (-1), 1) := by decide +kernel
theorem dX9_nearest_61 : decode cX9_nearest 61 = .ok (.if_icmp .ne 7, 3) := by decide +kernel
theorem dX9_nearest_64 : decode cX9_nearest 64 = .ok (.iconst (-1), 1) := by decide +kernel
theorem dX9_nearest_65 : decode cX9_nearest 65 = .ok (.goto 15, 3) := by decide +kernel
theorem dX9_nearest_68 : decode cX9_nearest 68 = .ok (.bipush 100, 2) := by decide +kernel
theorem dX9_nearest_70 : decode cX9_nearest 70 = .ok (.iload_n 2, 1) := by decide +kernel
theorem dX9_nearest_71 : decode cX9_nearest 71 = .ok (.bipush 24, 2) := by decide +kernel
theorem dX9_nearest_73 : decode cX9_nearest 73 = .ok (.irem, 1) := by decide +kernel
theorem dX9_nearest_74 : decode cX9_nearest 74 = .ok (.imul, 1) := by decide +kernel
theorem dX9_nearest_75 : decode cX9_nearest 75 = .ok (.iload_n 2, 1) := by decide +kernel
theorem dX9_nearest_76 : decode cX9_nearest 76 = .ok (.bipush 24, 2) := by decide +kernel
theorem dX9_nearest_78 : decode cX9_nearest 78 = .ok (.idiv, 1) := by decide +kernel
theorem dX9_nearest_79 : decode cX9_nearest 79 = .ok (.iadd, 1) := by decide +kernel
theorem dX9_nearest_80 : decode cX9_nearest 80 = .ok (.ireturn, 1) := by decide +kernel
theorem dX9_mark_0 : decode cX9_mark 0 = .ok (.aload_n 0, 1) := by decide +kernel
theorem dX9_mark_1 : decode cX9_mark 1 = .ok (.getfield 313, 3) := by decide +kernel
theorem dX9_mark_4 : decode cX9_mark 4 = .ok (.ifCond .lt 12, 3) := by decide +kernel
theorem dX9_mark_7 : decode cX9_mark 7 = .ok (.aload_n 0, 1) := by decide +kernel
theorem dX9_mark_8 : decode cX9_mark 8 = .ok (.getfield 313, 3) := by decide +kernel
theorem dX9_mark_11 : decode cX9_mark 11 = .ok (.bipush 8, 2) := by decide +kernel
theorem dX9_mark_13 : decode cX9_mark 13 = .ok (.if_icmp .lt 14, 3) := by decide +kernel
theorem dX9_mark_16 : decode cX9_mark 16 = .ok (.new 162, 3) := by decide +kernel
theorem dX9_mark_19 : decode cX9_mark 19 = .ok (.dup, 1) := by decide +kernel
theorem dX9_mark_20 : decode cX9_mark 20 = .ok (.ldc_w 316, 3) := by decide +kernel
theorem dX9_mark_23 : decode cX9_mark 23 = .ok (.invokespecial 166, 3) := by decide +kernel
theorem dX9_mark_26 : decode cX9_mark 26 = .ok (.athrow, 1) := by decide +kernel
theorem dX9_mark_27 : decode cX9_mark 27 = .ok (.aload_n 0, 1) := by decide +kernel
theorem dX9_mark_28 : decode cX9_mark 28 = .ok (.getfield 76, 3) := by decide +kernel
theorem dX9_mark_31 : decode cX9_mark 31 = .ok (.aload_n 0, 1) := by decide +kernel
theorem dX9_mark_32 : decode cX9_mark 32 = .ok (.getfield 313, 3) := by decide +kernel
theorem dX9_mark_35 : decode cX9_mark 35 = .ok (.aaload, 1) := by decide +kernel
theorem dX9_mark_36 : decode cX9_mark 36 = .ok (.astore_n 1, 1) := by decide +kernel
theorem dX9_mark_37 : decode cX9_mark 37 = .ok (.aload_n 1, 1) := by decide +kernel
theorem dX9_mark_38 : decode cX9_mark 38 = .ok (.ifnonnull 21, 3) := by decide +kernel
theorem dX9_mark_41 : decode cX9_mark 41 = .ok (.new 74, 3) := by decide +kernel
theorem dX9_mark_44 : decode cX9_mark 44 = .ok (.dup, 1) := by decide +kernel
theorem dX9_mark_45 : decode cX9_mark 45 = .ok (.invokespecial 318, 3) := by decide +kernel
theorem dX9_mark_48 : decode cX9_mark 48 = .ok (.astore_n 1, 1) := by decide +kernel
theorem dX9_mark_49 : decode cX9_mark 49 = .ok (.aload_n 0, 1) := by decide +kernel
theorem dX9_mark_50 : decode cX9_mark 50 = .ok (.getfield 76, 3) := by decide +kernel
theorem dX9_mark_53 : decode cX9_mark 53 = .ok (.aload_n 0, 1) := by decide +kernel
theorem dX9_mark_54 : decode cX9_mark 54 = .ok (.getfield 313, 3) := by decide +kernel
theorem dX9_mark_57 : decode cX9_mark 57 = .ok (.aload_n 1, 1) := by decide +kernel
theorem dX9_mark_58 : decode cX9_mark 58 = .ok (.aastore, 1) := by decide +kernel
theorem dX9_mark_59 : decode cX9_mark 59 = .ok (.aload_n 1, 1) := by decide +kernel
theorem dX9_mark_60 : decode cX9_mark 60 = .ok (.getfield 319, 3) := by decide +kernel
theorem dX9_mark_63 : decode cX9_mark 63 = .ok (.aload_n 0, 1) := by decide +kernel
theorem dX9_mark_64 : decode cX9_mark 64 = .ok (.getfield 60, 3) := by decide +kernel
theorem dX9_mark_67 : decode cX9_mark 67 = .ok (.invokevirtual 322, 3) := by decide +kernel
theorem dX9_mark_70 : decode cX9_mark 70 = .ok (.aload_n 1, 1) := by decide +kernel
theorem dX9_mark_71 : decode cX9_mark 71 = .ok (.getfield 326, 3) := by decide +kernel
theorem dX9_mark_74 : decode cX9_mark 74 = .ok (.aload_n 0, 1) := by decide +kernel
theorem dX9_mark_75 : decode cX9_mark 75 = .ok (.getfield 70, 3) := by decide +kernel
theorem dX9_mark_78 : decode cX9_mark 78 = .ok (.invokevirtual 327, 3) := by decide +kernel
theorem dX9_mark_81 : decode cX9_mark 81 = .ok (.aload_n 0, 1) := by decide +kernel
theorem dX9_mark_82 : decode cX9_mark 82 = .ok (.dup, 1) := by decide +kernel
theorem dX9_mark_83 : decode cX9_mark 83 = .ok (.getfield 313, 3) := by decide +kernel
theorem dX9_mark_86 : decode cX9_mark 86 = .ok (.iconst 1, 1) := by decide +kernel
theorem dX9_mark_87 : decode cX9_mark 87 = .ok (.iadd, 1) := by decide +kernel
theorem dX9_mark_88 : decode cX9_mark 88 = .ok (.putfield 313, 3) := by decide +kernel
theorem dX9_mark_91 : decode cX9_mark 91 = .ok (.aload_n 0, 1) := by decide +kernel
theorem dX9_mark_92 : decode cX9_mark 92 = .ok (.getfield 313, 3) := by decide +kernel
theorem dX9_mark_95 : decode cX9_mark 95 = .ok (.iconst 1, 1) := by decide +kernel
theorem dX9_mark_96 : decode cX9_mark 96 = .ok (.isub, 1) := by decide +kernel
theorem dX9_mark_97 : decode cX9_mark 97 = .ok (.ireturn, 1) := by decide +kernel
theorem dX9_back_0 : decode cX9_back 0 = .ok (.iload_n 1, 1) := by decide +kernel
theorem dX9_back_1 : decode cX9_back 1 = .ok (.ifCond .lt 17, 3) := by decide +kernel
theorem dX9_back_4 : decode cX9_back 4 = .ok (.iload_n 1, 1) := by decide +kernel
theorem dX9_back_5 : decode cX9_back 5 = .ok (.aload_n 0, 1) := by decide +kernel
theorem dX9_back_6 : decode cX9_back 6 = .ok (.getfield 313, 3) := by decide +kernel
theorem dX9_back_9 : decode cX9_back 9 = .ok (.if_icmp .ge 9, 3) := by decide +kernel
theorem dX9_back_12 : decode cX9_back 12 = .ok (.iload_n 1, 1) := by decide +kernel
theorem dX9_back_13 : decode cX9_back 13 = .ok (.bipush 8, 2) := by decide +kernel
theorem dX9_back_15 : decode cX9_back 15 = .ok (.if_icmp .lt 7, 3) := by decide +kernel
theorem dX9_back_18 : decode cX9_back 18 = .ok (.aconst_null, 1) := by decide +kernel
theorem dX9_back_19 : decode cX9_back 19 = .ok (.goto 9, 3) := by decide +kernel
theorem dX9_back_22 : decode cX9_back 22 = .ok (.aload_n 0, 1) := by decide +kernel
theorem dX9_back_23 : decode cX9_back 23 = .ok (.getfield 76, 3) := by decide +kernel
theorem dX9_back_26 : decode cX9_back 26 = .ok (.iload_n 1, 1) := by decide +kernel
theorem dX9_back_27 : decode cX9_back 27 = .ok (.aaload, 1) := by decide +kernel
theorem dX9_back_28 : decode cX9_back 28 = .ok (.astore_n 2, 1) := by decide +kernel
theorem dX9_back_29 : decode cX9_back 29 = .ok (.aload_n 2, 1) := by decide +kernel
theorem dX9_back_30 : decode cX9_back 30 = .ok (.ifnonnull 14, 3) := by decide +kernel
theorem dX9_back_33 : decode cX9_back 33 = .ok (.new 109, 3) := by decide +kernel
theorem dX9_back_36 : decode cX9_back 36 = .ok (.dup, 1) := by decide +kernel
theorem dX9_back_37 : decode cX9_back 37 = .ok (.ldc_w 330, 3) := by decide +kernel
theorem dX9_back_40 : decode cX9_back 40 = .ok (.invokespecial 113, 3) := by decide +kernel
theorem dX9_back_43 : decode cX9_back 43 = .ok (.athrow, 1) := by decide +kernel
theorem dX9_back_44 : decode cX9_back 44 = .ok (.aload_n 0, 1) := by decide +kernel
theorem dX9_back_45 : decode cX9_back 45 = .ok (.getfield 60, 3) := by decide +kernel
theorem dX9_back_48 : decode cX9_back 48 = .ok (.aload_n 2, 1) := by decide +kernel
theorem dX9_back_49 : decode cX9_back 49 = .ok (.getfield 319, 3) := by decide +kernel
theorem dX9_back_52 : decode cX9_back 52 = .ok (.invokevirtual 322, 3) := by decide +kernel
theorem dX9_back_55 : decode cX9_back 55 = .ok (.aload_n 0, 1) := by decide +kernel
theorem dX9_back_56 : decode cX9_back 56 = .ok (.getfield 60, 3) := by decide +kernel
theorem dX9_back_59 : decode cX9_back 59 = .ok (.aload_n 0, 1) := by decide +kernel
theorem dX9_back_60 : decode cX9_back 60 = .ok (.getfield 44, 3) := by decide +kernel
theorem dX9_back_63 : decode cX9_back 63 = .ok (.getfield 214, 3) := by decide +kernel
theorem dX9_back_66 : decode cX9_back 66 = .ok (.invokevirtual 220, 3) := by decide +kernel
theorem dX9_back_69 : decode cX9_back 69 = .ok (.aload_n 0, 1) := by decide +kernel
theorem dX9_back_70 : decode cX9_back 70 = .ok (.getfield 70, 3) := by decide +kernel
theorem dX9_back_73 : decode cX9_back 73 = .ok (.aload_n 2, 1) := by decide +kernel
theorem dX9_back_74 : decode cX9_back 74 = .ok (.getfield 326, 3) := by decide +kernel
theorem dX9_back_77 : decode cX9_back 77 = .ok (.invokevirtual 327, 3) := by decide +kernel
theorem dX9_back_80 : decode cX9_back 80 = .ok (.aload_n 0, 1) := by decide +kernel
theorem dX9_back_81 : decode cX9_back 81 = .ok (.iload_n 1, 1) := by decide +kernel
theorem dX9_back_82 : decode cX9_back 82 = .ok (.iconst 1, 1) := by decide +kernel
theorem dX9_back_83 : decode cX9_back 83 = .ok (.iadd, 1) := by decide +kernel
theorem dX9_back_84 : decode cX9_back 84 = .ok (.putfield 313, 3) := by decide +kernel
theorem dX9_back_87 : decode cX9_back 87 = .ok (.aload_n 0, 1) := by decide +kernel
theorem dX9_back_88 : decode cX9_back 88 = .ok (.getfield 60, 3) := by decide +kernel
theorem dX9_back_91 : decode cX9_back 91 = .ok (.getfield 332, 3) := by decide +kernel
theorem dX9_back_94 : decode cX9_back 94 = .ok (.ireturn, 1) := by decide +kernel
theorem dX9_sent_0 : decode cX9_sent 0 = .ok (.aload_n 0, 1) := by decide +kernel
theorem dX9_sent_1 : decode cX9_sent 1 = .ok (.getfield 60, 3) := by decide +kernel
theorem dX9_sent_4 : decode cX9_sent 4 = .ok (.getfield 335, 3) := by decide +kernel
theorem dX9_sent_7 : decode cX9_sent 7 = .ok (.ifCond .ne 7, 3) := by decide +kernel
theorem dX9_sent_10 : decode cX9_sent 10 = .ok (.dconst 1, 1) := by decide +kernel
theorem dX9_sent_11 : decode cX9_sent 11 = .ok (.goto 20, 3) := by decide +kernel
theorem dX9_sent_14 : decode cX9_sent 14 = .ok (.aload_n 0, 1) := by decide +kernel
theorem dX9_sent_15 : decode cX9_sent 15 = .ok (.getfield 60, 3) := by decide +kernel
theorem dX9_sent_18 : decode cX9_sent 18 = .ok (.getfield 338, 3) := by decide +kernel
theorem dX9_sent_21 : decode cX9_sent 21 = .ok (.i2d, 1) := by decide +kernel
theorem dX9_sent_22 : decode cX9_sent 22 = .ok (.aload_n 0, 1) := by decide +kernel
theorem dX9_sent_23 : decode cX9_sent 23 = .ok (.getfield 60, 3) := by decide +kernel
theorem dX9_sent_26 : decode cX9_sent 26 = .ok (.getfield 335, 3) := by decide +kernel
theorem dX9_sent_29 : decode cX9_sent 29 = .ok (.i2d, 1) := by decide +kernel
theorem dX9_sent_30 : decode cX9_sent 30 = .ok (.ddiv, 1) := by decide +kernel
theorem dX9_sent_31 : decode cX9_sent 31 = .ok (.dreturn, 1) := by decide +kernel
theorem dX9_digest_0 : decode cX9_digest 0 = .ok (.ldc2_w 341, 3) := by decide +kernel
theorem dX9_digest_3 : decode cX9_digest 3 = .ok (.lstore_n 1, 1) := by decide +kernel
theorem dX9_digest_4 : decode cX9_digest 4 = .ok (.iconst 0, 1) := by decide +kernel
theorem dX9_digest_5 : decode cX9_digest 5 = .ok (.istore_n 3, 1) := by decide +kernel
theorem dX9_digest_6 : decode cX9_digest 6 = .ok (.iload_n 3, 1) := by decide +kernel
theorem dX9_digest_7 : decode cX9_digest 7 = .ok (.bipush 9, 2) := by decide +kernel
theorem dX9_digest_9 : decode cX9_digest 9 = .ok (.if_icmp .gt 25, 3) := by decide +kernel
theorem dX9_digest_12 : decode cX9_digest 12 = .ok (.lload_n 1, 1) := by decide +kernel
theorem dX9_digest_13 : decode cX9_digest 13 = .ok (.ldc2_w 343, 3) := by decide +kernel
theorem dX9_digest_16 : decode cX9_digest 16 = .ok (.lmul, 1) := by decide +kernel
theorem dX9_digest_17 : decode cX9_digest 17 = .ok (.aload_n 0, 1) := by decide +kernel
theorem dX9_digest_18 : decode cX9_digest 18 = .ok (.getfield 60, 3) := by decide +kernel
theorem dX9_digest_21 : decode cX9_digest 21 = .ok (.iload_n 3, 1) := by decide +kernel
theorem dX9_digest_22 : decode cX9_digest 22 = .ok (.invokevirtual 225, 3) := by decide +kernel
theorem dX9_digest_25 : decode cX9_digest 25 = .ok (.i2l, 1) := by decide +kernel
theorem dX9_digest_26 : decode cX9_digest 26 = .ok (.ladd, 1) := by decide +kernel
theorem dX9_digest_27 : decode cX9_digest 27 = .ok (.lstore_n 1, 1) := by decide +kernel
theorem dX9_digest_28 : decode cX9_digest 28 = .ok (.iinc 3 1, 3) := by decide +kernel
theorem dX9_digest_31 : decode cX9_digest 31 = .ok (.goto (-25), 3) := by decide +kernel
theorem dX9_digest_34 : decode cX9_digest 34 = .ok (.iconst 0, 1) := by decide +kernel
theorem dX9_digest_35 : decode cX9_digest 35 = .ok (.istore_n 3, 1) := by decide +kernel
theorem dX9_digest_36 : decode cX9_digest 36 = .ok (.iload_n 3, 1) := by decide +kernel
theorem dX9_digest_37 : decode cX9_digest 37 = .ok (.aload_n 0, 1) := by decide +kernel
theorem dX9_digest_38 : decode cX9_digest 38 = .ok (.getfield 60, 3) := by decide +kernel
theorem dX9_digest_41 : decode cX9_digest 41 = .ok (.getfield 345, 3) := by decide +kernel
theorem dX9_digest_44 : decode cX9_digest 44 = .ok (.if_icmp .ge 42, 3) := by decide +kernel
theorem dX9_digest_47 : decode cX9_digest 47 = .ok (.iconst 0, 1) := by decide +kernel
theorem dX9_digest_48 : decode cX9_digest 48 = .ok (.istore 4, 2) := by decide +kernel
theorem dX9_digest_50 : decode cX9_digest 50 = .ok (.iload 4, 2) := by decide +kernel
theorem dX9_digest_52 : decode cX9_digest 52 = .ok (.iconst 3, 1) := by decide +kernel
theorem dX9_digest_53 : decode cX9_digest 53 = .ok (.if_icmp .gt 27, 3) := by decide +kernel
theorem dX9_digest_56 : decode cX9_digest 56 = .ok (.lload_n 1, 1) := by decide +kernel
theorem dX9_digest_57 : decode cX9_digest 57 = .ok (.ldc2_w 343, 3) := by decide +kernel
theorem dX9_digest_60 : decode cX9_digest 60 = .ok (.lmul, 1) := by decide +kernel
theorem dX9_digest_61 : decode cX9_digest 61 = .ok (.aload_n 0, 1) := by decide +kernel
theorem dX9_digest_62 : decode cX9_digest 62 = .ok (.getfield 60, 3) := by decide +kernel
theorem dX9_digest_65 : decode cX9_digest 65 = .ok (.iload_n 3, 1) := by decide +kernel
theorem dX9_digest_66 : decode cX9_digest 66 = .ok (.iload 4, 2) := by decide +kernel
theorem dX9_digest_68 : decode cX9_digest 68 = .ok (.invokevirtual 232, 3) := by decide +kernel
theorem dX9_digest_71 : decode cX9_digest 71 = .ok (.i2l, 1) := by decide +kernel
theorem dX9_digest_72 : decode cX9_digest 72 = .ok (.ladd, 1) := by decide +kernel
theorem dX9_digest_73 : decode cX9_digest 73 = .ok (.lstore_n 1, 1) := by decide +kernel
theorem dX9_digest_74 : decode cX9_digest 74 = .ok (.iinc 4 1, 3) := by decide +kernel
theorem dX9_digest_77 : decode cX9_digest 77 = .ok (.goto (-27), 3) := by decide +kernel
theorem dX9_digest_80 : decode cX9_digest 80 = .ok (.iinc 3 1, 3) := by decide +kernel
theorem dX9_digest_83 : decode cX9_digest 83 = .ok (.goto (-47), 3) := by decide +kernel
theorem dX9_digest_86 : decode cX9_digest 86 = .ok (.iconst 0, 1) := by decide +kernel
theorem dX9_digest_87 : decode cX9_digest 87 = .ok (.istore_n 3, 1) := by decide +kernel
theorem dX9_digest_88 : decode cX9_digest 88 = .ok (.iload_n 3, 1) := by decide +kernel
theorem dX9_digest_89 : decode cX9_digest 89 = .ok (.aload_n 0, 1) := by decide +kernel
theorem dX9_digest_90 : decode cX9_digest 90 = .ok (.getfield 28, 3) := by decide +kernel
theorem dX9_digest_93 : decode cX9_digest 93 = .ok (.getfield 235, 3) := by decide +kernel
theorem dX9_digest_96 : decode cX9_digest 96 = .ok (.if_icmp .ge 46, 3) := by decide +kernel
theorem dX9_digest_99 : decode cX9_digest 99 = .ok (.iconst 0, 1) := by decide +kernel
theorem dX9_digest_100 : decode cX9_digest 100 = .ok (.istore 4, 2) := by decide +kernel
theorem dX9_digest_102 : decode cX9_digest 102 = .ok (.iload 4, 2) := by decide +kernel
theorem dX9_digest_104 : decode cX9_digest 104 = .ok (.iconst 5, 1) := by decide +kernel
theorem dX9_digest_105 : decode cX9_digest 105 = .ok (.if_icmp .gt 31, 3) := by decide +kernel
theorem dX9_digest_108 : decode cX9_digest 108 = .ok (.lload_n 1, 1) := by decide +kernel
theorem dX9_digest_109 : decode cX9_digest 109 = .ok (.ldc2_w 343, 3) := by decide +kernel
theorem dX9_digest_112 : decode cX9_digest 112 = .ok (.lmul, 1) := by decide +kernel
theorem dX9_digest_113 : decode cX9_digest 113 = .ok (.aload_n 0, 1) := by decide +kernel
theorem dX9_digest_114 : decode cX9_digest 114 = .ok (.getfield 28, 3) := by decide +kernel
theorem dX9_digest_117 : decode cX9_digest 117 = .ok (.iload_n 3, 1) := by decide +kernel
theorem dX9_digest_118 : decode cX9_digest 118 = .ok (.iload 4, 2) := by decide +kernel
theorem dX9_digest_120 : decode cX9_digest 120 = .ok (.aload_n 0, 1) := by decide +kernel
theorem dX9_digest_121 : decode cX9_digest 121 = .ok (.getfield 60, 3) := by decide +kernel
theorem dX9_digest_124 : decode cX9_digest 124 = .ok (.invokevirtual 177, 3) := by decide +kernel
theorem dX9_digest_127 : decode cX9_digest 127 = .ok (.i2l, 1) := by decide +kernel
theorem dX9_digest_128 : decode cX9_digest 128 = .ok (.ladd, 1) := by decide +kernel
theorem dX9_digest_129 : decode cX9_digest 129 = .ok (.lstore_n 1, 1) := by decide +kernel
theorem dX9_digest_130 : decode cX9_digest 130 = .ok (.iinc 4 1, 3) := by decide +kernel
theorem dX9_digest_133 : decode cX9_digest 133 = .ok (.goto (-31), 3) := by decide +kernel
theorem dX9_digest_136 : decode cX9_digest 136 = .ok (.iinc 3 1, 3) := by decide +kernel
theorem dX9_digest_139 : decode cX9_digest 139 = .ok (.goto (-51), 3) := by decide +kernel
theorem dX9_digest_142 : decode cX9_digest 142 = .ok (.iconst 0, 1) := by decide +kernel
theorem dX9_digest_143 : decode cX9_digest 143 = .ok (.istore_n 3, 1) := by decide +kernel
theorem dX9_digest_144 : decode cX9_digest 144 = .ok (.iload_n 3, 1) := by decide +kernel
theorem dX9_digest_145 : decode cX9_digest 145 = .ok (.aload_n 0, 1) := by decide +kernel
theorem dX9_digest_146 : decode cX9_digest 146 = .ok (.getfield 70, 3) := by decide +kernel
theorem dX9_digest_149 : decode cX9_digest 149 = .ok (.getfield 247, 3) := by decide +kernel
theorem dX9_digest_152 : decode cX9_digest 152 = .ok (.if_icmp .ge 42, 3) := by decide +kernel
theorem dX9_digest_155 : decode cX9_digest 155 = .ok (.iconst 0, 1) := by decide +kernel
theorem dX9_digest_156 : decode cX9_digest 156 = .ok (.istore 4, 2) := by decide +kernel
theorem dX9_digest_158 : decode cX9_digest 158 = .ok (.iload 4, 2) := by decide +kernel
theorem dX9_digest_160 : decode cX9_digest 160 = .ok (.iconst 2, 1) := by decide +kernel
theorem dX9_digest_161 : decode cX9_digest 161 = .ok (.if_icmp .gt 27, 3) := by decide +kernel
theorem dX9_digest_164 : decode cX9_digest 164 = .ok (.lload_n 1, 1) := by decide +kernel
theorem dX9_digest_165 : decode cX9_digest 165 = .ok (.ldc2_w 343, 3) := by decide +kernel
theorem dX9_digest_168 : decode cX9_digest 168 = .ok (.lmul, 1) := by decide +kernel
theorem dX9_digest_169 : decode cX9_digest 169 = .ok (.aload_n 0, 1) := by decide +kernel
theorem dX9_digest_170 : decode cX9_digest 170 = .ok (.getfield 70, 3) := by decide +kernel
theorem dX9_digest_173 : decode cX9_digest 173 = .ok (.iload_n 3, 1) := by decide +kernel
theorem dX9_digest_174 : decode cX9_digest 174 = .ok (.iload 4, 2) := by decide +kernel
theorem dX9_digest_176 : decode cX9_digest 176 = .ok (.invokevirtual 266, 3) := by decide +kernel
theorem dX9_digest_179 : decode cX9_digest 179 = .ok (.i2l, 1) := by decide +kernel
theorem dX9_digest_180 : decode cX9_digest 180 = .ok (.ladd, 1) := by decide +kernel
theorem dX9_digest_181 : decode cX9_digest 181 = .ok (.lstore_n 1, 1) := by decide +kernel
theorem dX9_digest_182 : decode cX9_digest 182 = .ok (.iinc 4 1, 3) := by decide +kernel
theorem dX9_digest_185 : decode cX9_digest 185 = .ok (.goto (-27), 3) := by decide +kernel
theorem dX9_digest_188 : decode cX9_digest 188 = .ok (.iinc 3 1, 3) := by decide +kernel
theorem dX9_digest_191 : decode cX9_digest 191 = .ok (.goto (-47), 3) := by decide +kernel
theorem dX9_digest_194 : decode cX9_digest 194 = .ok (.iconst 0, 1) := by decide +kernel
theorem dX9_digest_195 : decode cX9_digest 195 = .ok (.istore_n 3, 1) := by decide +kernel
theorem dX9_digest_196 : decode cX9_digest 196 = .ok (.iload_n 3, 1) := by decide +kernel
theorem dX9_digest_197 : decode cX9_digest 197 = .ok (.iconst 3, 1) := by decide +kernel
theorem dX9_digest_198 : decode cX9_digest 198 = .ok (.if_icmp .gt 22, 3) := by decide +kernel
theorem dX9_digest_201 : decode cX9_digest 201 = .ok (.lload_n 1, 1) := by decide +kernel
theorem dX9_digest_202 : decode cX9_digest 202 = .ok (.ldc2_w 343, 3) := by decide +kernel
theorem dX9_digest_205 : decode cX9_digest 205 = .ok (.lmul, 1) := by decide +kernel
theorem dX9_digest_206 : decode cX9_digest 206 = .ok (.aload_n 0, 1) := by decide +kernel
theorem dX9_digest_207 : decode cX9_digest 207 = .ok (.iload_n 3, 1) := by decide +kernel
theorem dX9_digest_208 : decode cX9_digest 208 = .ok (.invokevirtual 275, 3) := by decide +kernel
theorem dX9_digest_211 : decode cX9_digest 211 = .ok (.i2l, 1) := by decide +kernel
theorem dX9_digest_212 : decode cX9_digest 212 = .ok (.ladd, 1) := by decide +kernel
theorem dX9_digest_213 : decode cX9_digest 213 = .ok (.lstore_n 1, 1) := by decide +kernel
theorem dX9_digest_214 : decode cX9_digest 214 = .ok (.iinc 3 1, 3) := by decide +kernel
theorem dX9_digest_217 : decode cX9_digest 217 = .ok (.goto (-21), 3) := by decide +kernel
theorem dX9_digest_220 : decode cX9_digest 220 = .ok (.lload_n 1, 1) := by decide +kernel
theorem dX9_digest_221 : decode cX9_digest 221 = .ok (.ldc2_w 343, 3) := by decide +kernel
theorem dX9_digest_224 : decode cX9_digest 224 = .ok (.lmul, 1) := by decide +kernel
theorem dX9_digest_225 : decode cX9_digest 225 = .ok (.aload_n 0, 1) := by decide +kernel
theorem dX9_digest_226 : decode cX9_digest 226 = .ok (.invokevirtual 348, 3) := by decide +kernel
theorem dX9_digest_229 : decode cX9_digest 229 = .ok (.i2l, 1) := by decide +kernel
theorem dX9_digest_230 : decode cX9_digest 230 = .ok (.ladd, 1) := by decide +kernel
theorem dX9_digest_231 : decode cX9_digest 231 = .ok (.lreturn, 1) := by decide +kernel
theorem dX9_numberOf_0 : decode cX9_numberOf 0 = .ok (.iload_n 1, 1) := by decide +kernel
theorem dX9_numberOf_1 : decode cX9_numberOf 1 = .ok (.tableswitch 51 0 2 #[27, 35, 43], 27) := by decide +kernel
theorem dX9_numberOf_28 : decode cX9_numberOf 28 = .ok (.aload_n 0, 1) := by decide +kernel
theorem dX9_numberOf_29 : decode cX9_numberOf 29 = .ok (.getfield 28, 3) := by decide +kernel
theorem dX9_numberOf_32 : decode cX9_numberOf 32 = .ok (.getfield 235, 3) := by decide +kernel
theorem dX9_numberOf_35 : decode cX9_numberOf 35 = .ok (.ireturn, 1) := by decide +kernel
theorem dX9_numberOf_36 : decode cX9_numberOf 36 = .ok (.aload_n 0, 1) := by decide +kernel
theorem dX9_numberOf_37 : decode cX9_numberOf 37 = .ok (.getfield 35, 3) := by decide +kernel
theorem dX9_numberOf_40 : decode cX9_numberOf 40 = .ok (.getfield 351, 3) := by decide +kernel
theorem dX9_numberOf_43 : decode cX9_numberOf 43 = .ok (.ireturn, 1) := by decide +kernel
theorem dX9_numberOf_44 : decode cX9_numberOf 44 = .ok (.aload_n 0, 1) := by decide +kernel
theorem dX9_numberOf_45 : decode cX9_numberOf 45 = .ok (.getfield 70, 3) := by decide +kernel
theorem dX9_numberOf_48 : decode cX9_numberOf 48 = .ok (.getfield 247, 3) := by decide +kernel
theorem dX9_numberOf_51 : decode cX9_numberOf 51 = .ok (.ireturn, 1) := by decide +kernel
theorem dX9_numberOf_52 : decode cX9_numberOf 52 = .ok (.aload_n 0, 1) := by decide +kernel
theorem dX9_numberOf_53 : decode cX9_numberOf 53 = .ok (.getfield 313, 3) := by decide +kernel
theorem dX9_numberOf_56 : decode cX9_numberOf 56 = .ok (.ireturn, 1) := by decide +kernel
theorem dX9_canBe_0 : decode cX9_canBe 0 = .ok (.iload_n 1, 1) := by decide +kernel
theorem dX9_canBe_1 : decode cX9_canBe 1 = .ok (.tableswitch 157 0 7 #[47, 53, 53, 81, 103, 103, 124, 143], 47) := by decide +kernel
theorem dX9_canBe_48 : decode cX9_canBe 48 = .ok (.iload_n 2, 1) := by decide +kernel
theorem dX9_canBe_49 : decode cX9_canBe 49 = .ok (.iload_n 3, 1) := by decide +kernel
theorem dX9_canBe_50 : decode cX9_canBe 50 = .ok (.invokestatic 105, 3) := by decide +kernel
theorem dX9_canBe_53 : decode cX9_canBe 53 = .ok (.ireturn, 1) := by decide +kernel
theorem dX9_canBe_54 : decode cX9_canBe 54 = .ok (.aload_n 0, 1) := by decide +kernel
theorem dX9_canBe_55 : decode cX9_canBe 55 = .ok (.getfield 28, 3) := by decide +kernel
theorem dX9_canBe_58 : decode cX9_canBe 58 = .ok (.iload_n 2, 1) := by decide +kernel
theorem dX9_canBe_59 : decode cX9_canBe 59 = .ok (.invokevirtual 171, 3) := by decide +kernel
theorem dX9_canBe_62 : decode cX9_canBe 62 = .ok (.ifCond .eq 18, 3) := by decide +kernel
theorem dX9_canBe_65 : decode cX9_canBe 65 = .ok (.iload_n 3, 1) := by decide +kernel
theorem dX9_canBe_66 : decode cX9_canBe 66 = .ok (.iconst 1, 1) := by decide +kernel
theorem dX9_canBe_67 : decode cX9_canBe 67 = .ok (.if_icmp .lt 13, 3) := by decide +kernel
theorem dX9_canBe_70 : decode cX9_canBe 70 = .ok (.iload_n 3, 1) := by decide +kernel
theorem dX9_canBe_71 : decode cX9_canBe 71 = .ok (.bipush 9, 2) := by decide +kernel
theorem dX9_canBe_73 : decode cX9_canBe 73 = .ok (.if_icmp .gt 7, 3) := by decide +kernel
theorem dX9_canBe_76 : decode cX9_canBe 76 = .ok (.iconst 1, 1) := by decide +kernel
theorem dX9_canBe_77 : decode cX9_canBe 77 = .ok (.goto 4, 3) := by decide +kernel
theorem dX9_canBe_80 : decode cX9_canBe 80 = .ok (.iconst 0, 1) := by decide +kernel
theorem dX9_canBe_81 : decode cX9_canBe 81 = .ok (.ireturn, 1) := by decide +kernel
theorem dX9_canBe_82 : decode cX9_canBe 82 = .ok (.iload_n 2, 1) := by decide +kernel
theorem dX9_canBe_83 : decode cX9_canBe 83 = .ok (.iconst 1, 1) := by decide +kernel
theorem dX9_canBe_84 : decode cX9_canBe 84 = .ok (.if_icmp .lt 18, 3) := by decide +kernel
theorem dX9_canBe_87 : decode cX9_canBe 87 = .ok (.iload_n 2, 1) := by decide +kernel
theorem dX9_canBe_88 : decode cX9_canBe 88 = .ok (.sipush 600, 3) := by decide +kernel
theorem dX9_canBe_91 : decode cX9_canBe 91 = .ok (.if_icmp .gt 11, 3) := by decide +kernel
theorem dX9_canBe_94 : decode cX9_canBe 94 = .ok (.iload_n 3, 1) := by decide +kernel
theorem dX9_canBe_95 : decode cX9_canBe 95 = .ok (.ifCond .ne 7, 3) := by decide +kernel
theorem dX9_canBe_98 : decode cX9_canBe 98 = .ok (.iconst 1, 1) := by decide +kernel
theorem dX9_canBe_99 : decode cX9_canBe 99 = .ok (.goto 4, 3) := by decide +kernel
theorem dX9_canBe_102 : decode cX9_canBe 102 = .ok (.iconst 0, 1) := by decide +kernel
theorem dX9_canBe_103 : decode cX9_canBe 103 = .ok (.ireturn, 1) := by decide +kernel
theorem dX9_canBe_104 : decode cX9_canBe 104 = .ok (.iload_n 2, 1) := by decide +kernel
theorem dX9_canBe_105 : decode cX9_canBe 105 = .ok (.ifCond .lt 18, 3) := by decide +kernel
theorem dX9_canBe_108 : decode cX9_canBe 108 = .ok (.iload_n 2, 1) := by decide +kernel
theorem dX9_canBe_109 : decode cX9_canBe 109 = .ok (.sipush 1440, 3) := by decide +kernel
theorem dX9_canBe_112 : decode cX9_canBe 112 = .ok (.if_icmp .ge 11, 3) := by decide +kernel
theorem dX9_canBe_115 : decode cX9_canBe 115 = .ok (.iload_n 3, 1) := by decide +kernel
theorem dX9_canBe_116 : decode cX9_canBe 116 = .ok (.ifCond .ne 7, 3) := by decide +kernel
theorem dX9_canBe_119 : decode cX9_canBe 119 = .ok (.iconst 1, 1) := by decide +kernel
theorem dX9_canBe_120 : decode cX9_canBe 120 = .ok (.goto 4, 3) := by decide +kernel
theorem dX9_canBe_123 : decode cX9_canBe 123 = .ok (.iconst 0, 1) := by decide +kernel
theorem dX9_canBe_124 : decode cX9_canBe 124 = .ok (.ireturn, 1) := by decide +kernel
theorem dX9_canBe_125 : decode cX9_canBe 125 = .ok (.iload_n 2, 1) := by decide +kernel
theorem dX9_canBe_126 : decode cX9_canBe 126 = .ok (.ifCond .eq 8, 3) := by decide +kernel
theorem dX9_canBe_129 : decode cX9_canBe 129 = .ok (.iload_n 2, 1) := by decide +kernel
theorem dX9_canBe_130 : decode cX9_canBe 130 = .ok (.iconst 1, 1) := by decide +kernel
theorem dX9_canBe_131 : decode cX9_canBe 131 = .ok (.if_icmp .ne 11, 3) := by decide +kernel
theorem dX9_canBe_134 : decode cX9_canBe 134 = .ok (.iload_n 3, 1) := by decide +kernel
theorem dX9_canBe_135 : decode cX9_canBe 135 = .ok (.ifCond .ne 7, 3) := by decide +kernel
theorem dX9_canBe_138 : decode cX9_canBe 138 = .ok (.iconst 1, 1) := by decide +kernel
theorem dX9_canBe_139 : decode cX9_canBe 139 = .ok (.goto 4, 3) := by decide +kernel
theorem dX9_canBe_142 : decode cX9_canBe 142 = .ok (.iconst 0, 1) := by decide +kernel
theorem dX9_canBe_143 : decode cX9_canBe 143 = .ok (.ireturn, 1) := by decide +kernel
theorem dX9_canBe_144 : decode cX9_canBe 144 = .ok (.iload_n 2, 1) := by decide +kernel
theorem dX9_canBe_145 : decode cX9_canBe 145 = .ok (.ifCond .ne 11, 3) := by decide +kernel
theorem dX9_canBe_148 : decode cX9_canBe 148 = .ok (.iload_n 3, 1) := by decide +kernel
theorem dX9_canBe_149 : decode cX9_canBe 149 = .ok (.ifCond .ne 7, 3) := by decide +kernel
theorem dX9_canBe_152 : decode cX9_canBe 152 = .ok (.iconst 1, 1) := by decide +kernel
theorem dX9_canBe_153 : decode cX9_canBe 153 = .ok (.goto 4, 3) := by decide +kernel
theorem dX9_canBe_156 : decode cX9_canBe 156 = .ok (.iconst 0, 1) := by decide +kernel
theorem dX9_canBe_157 : decode cX9_canBe 157 = .ok (.ireturn, 1) := by decide +kernel
theorem dX9_canBe_158 : decode cX9_canBe 158 = .ok (.iconst 0, 1) := by decide +kernel
theorem dX9_canBe_159 : decode cX9_canBe 159 = .ok (.ireturn, 1) := by decide +kernel
theorem dX9_doOnCopy_0 : decode cX9_doOnCopy 0 = .ok (.aload_n 0, 1) := by decide +kernel
theorem dX9_doOnCopy_1 : decode cX9_doOnCopy 1 = .ok (.getfield 64, 3) := by decide +kernel
theorem dX9_doOnCopy_4 : decode cX9_doOnCopy 4 = .ok (.aload_n 0, 1) := by decide +kernel
theorem dX9_doOnCopy_5 : decode cX9_doOnCopy 5 = .ok (.getfield 60, 3) := by decide +kernel
theorem dX9_doOnCopy_8 : decode cX9_doOnCopy 8 = .ok (.invokevirtual 322, 3) := by decide +kernel
theorem dX9_doOnCopy_11 : decode cX9_doOnCopy 11 = .ok (.aload_n 0, 1) := by decide +kernel
theorem dX9_doOnCopy_12 : decode cX9_doOnCopy 12 = .ok (.getfield 44, 3) := by decide +kernel
theorem dX9_doOnCopy_15 : decode cX9_doOnCopy 15 = .ok (.aload_n 0, 1) := by decide +kernel
theorem dX9_doOnCopy_16 : decode cX9_doOnCopy 16 = .ok (.getfield 64, 3) := by decide +kernel
theorem dX9_doOnCopy_19 : decode cX9_doOnCopy 19 = .ok (.aload_n 0, 1) := by decide +kernel
theorem dX9_doOnCopy_20 : decode cX9_doOnCopy 20 = .ok (.getfield 70, 3) := by decide +kernel
theorem dX9_doOnCopy_23 : decode cX9_doOnCopy 23 = .ok (.iload_n 1, 1) := by decide +kernel
theorem dX9_doOnCopy_24 : decode cX9_doOnCopy 24 = .ok (.invokevirtual 288, 3) := by decide +kernel
theorem dX9_doOnCopy_27 : decode cX9_doOnCopy 27 = .ok (.ireturn, 1) := by decide +kernel
theorem dX10_init_0 : decode cX10_init 0 = .ok (.aload_n 0, 1) := by decide +kernel
theorem dX10_init_1 : decode cX10_init 1 = .ok (.invokespecial 3, 3) := by decide +kernel
theorem dX10_init_4 : decode cX10_init 4 = .ok (.aload_n 0, 1) := by decide +kernel
theorem dX10_init_5 : decode cX10_init 5 = .ok (.sipush 576, 3) := by decide +kernel
theorem dX10_init_8 : decode cX10_init 8 = .ok (.newarray .int, 2) := by decide +kernel
theorem dX10_init_10 : decode cX10_init 10 = .ok (.putfield 9, 3) := by decide +kernel
theorem dX10_init_13 : decode cX10_init 13 = .ok (.aload_n 0, 1) := by decide +kernel
theorem dX10_init_14 : decode cX10_init 14 = .ok (.sipush 576, 3) := by decide +kernel
theorem dX10_init_17 : decode cX10_init 17 = .ok (.newarray .int, 2) := by decide +kernel
theorem dX10_init_19 : decode cX10_init 19 = .ok (.putfield 13, 3) := by decide +kernel
theorem dX10_init_22 : decode cX10_init 22 = .ok (.aload_n 0, 1) := by decide +kernel
theorem dX10_init_23 : decode cX10_init 23 = .ok (.sipush 576, 3) := by decide +kernel
theorem dX10_init_26 : decode cX10_init 26 = .ok (.newarray .boolean, 2) := by decide +kernel
theorem dX10_init_28 : decode cX10_init 28 = .ok (.putfield 16, 3) := by decide +kernel
theorem dX10_init_31 : decode cX10_init 31 = .ok (.aload_n 0, 1) := by decide +kernel
theorem dX10_init_32 : decode cX10_init 32 = .ok (.bipush 12, 2) := by decide +kernel
theorem dX10_init_34 : decode cX10_init 34 = .ok (.putfield 20, 3) := by decide +kernel
theorem dX10_init_37 : decode cX10_init 37 = .ok (.aload_n 0, 1) := by decide +kernel
theorem dX10_init_38 : decode cX10_init 38 = .ok (.bipush 48, 2) := by decide +kernel
theorem dX10_init_40 : decode cX10_init 40 = .ok (.newarray .int, 2) := by decide +kernel
theorem dX10_init_42 : decode cX10_init 42 = .ok (.putfield 24, 3) := by decide +kernel
theorem dX10_init_45 : decode cX10_init 45 = .ok (.aload_n 0, 1) := by decide +kernel
theorem dX10_init_46 : decode cX10_init 46 = .ok (.bipush 18, 2) := by decide +kernel
theorem dX10_init_48 : decode cX10_init 48 = .ok (.newarray .int, 2) := by decide +kernel
theorem dX10_init_50 : decode cX10_init 50 = .ok (.putfield 27, 3) := by decide +kernel
theorem dX10_init_53 : decode cX10_init 53 = .ok (.aload_n 0, 1) := by decide +kernel
theorem dX10_init_54 : decode cX10_init 54 = .ok (.sipush 4000, 3) := by decide +kernel
theorem dX10_init_57 : decode cX10_init 57 = .ok (.putfield 30, 3) := by decide +kernel
theorem dX10_init_60 : decode cX10_init 60 = .ok (.aload_n 0, 1) := by decide +kernel
theorem dX10_init_61 : decode cX10_init 61 = .ok (.sipush 800, 3) := by decide +kernel
theorem dX10_init_64 : decode cX10_init 64 = .ok (.putfield 33, 3) := by decide +kernel
theorem dX10_init_67 : decode cX10_init 67 = .ok (.aload_n 0, 1) := by decide +kernel
theorem dX10_init_68 : decode cX10_init 68 = .ok (.sipush 594, 3) := by decide +kernel
theorem dX10_init_71 : decode cX10_init 71 = .ok (.newarray .int, 2) := by decide +kernel
theorem dX10_init_73 : decode cX10_init 73 = .ok (.putfield 36, 3) := by decide +kernel
theorem dX10_init_76 : decode cX10_init 76 = .ok (.aload_n 0, 1) := by decide +kernel
theorem dX10_init_77 : decode cX10_init 77 = .ok (.sipush 594, 3) := by decide +kernel
theorem dX10_init_80 : decode cX10_init 80 = .ok (.newarray .int, 2) := by decide +kernel
theorem dX10_init_82 : decode cX10_init 82 = .ok (.putfield 39, 3) := by decide +kernel
theorem dX10_init_85 : decode cX10_init 85 = .ok (.aload_n 0, 1) := by decide +kernel
theorem dX10_init_86 : decode cX10_init 86 = .ok (.bipush 120, 2) := by decide +kernel
theorem dX10_init_88 : decode cX10_init 88 = .ok (.newarray .int, 2) := by decide +kernel
theorem dX10_init_90 : decode cX10_init 90 = .ok (.putfield 42, 3) := by decide +kernel
theorem dX10_init_93 : decode cX10_init 93 = .ok (.aload_n 0, 1) := by decide +kernel
theorem dX10_init_94 : decode cX10_init 94 = .ok (.bipush 8, 2) := by decide +kernel
theorem dX10_init_96 : decode cX10_init 96 = .ok (.sipush 594, 3) := by decide +kernel
theorem dX10_init_99 : decode cX10_init 99 = .ok (.multianewarray 45 2, 4) := by decide +kernel
theorem dX10_init_103 : decode cX10_init 103 = .ok (.putfield 47, 3) := by decide +kernel
theorem dX10_init_106 : decode cX10_init 106 = .ok (.aload_n 0, 1) := by decide +kernel
theorem dX10_init_107 : decode cX10_init 107 = .ok (.bipush 8, 2) := by decide +kernel
theorem dX10_init_109 : decode cX10_init 109 = .ok (.bipush 120, 2) := by decide +kernel
theorem dX10_init_111 : decode cX10_init 111 = .ok (.multianewarray 45 2, 4) := by decide +kernel
theorem dX10_init_115 : decode cX10_init 115 = .ok (.putfield 50, 3) := by decide +kernel
theorem dX10_init_118 : decode cX10_init 118 = .ok (.aload_n 0, 1) := by decide +kernel
theorem dX10_init_119 : decode cX10_init 119 = .ok (.bipush 8, 2) := by decide +kernel
theorem dX10_init_121 : decode cX10_init 121 = .ok (.newarray .int, 2) := by decide +kernel
theorem dX10_init_123 : decode cX10_init 123 = .ok (.putfield 53, 3) := by decide +kernel
theorem dX10_init_126 : decode cX10_init 126 = .ok (.aload_n 0, 1) := by decide +kernel
theorem dX10_init_127 : decode cX10_init 127 = .ok (.sipush 576, 3) := by decide +kernel
theorem dX10_init_130 : decode cX10_init 130 = .ok (.newarray .int, 2) := by decide +kernel
theorem dX10_init_132 : decode cX10_init 132 = .ok (.putfield 56, 3) := by decide +kernel
theorem dX10_init_135 : decode cX10_init 135 = .ok (.aload_n 0, 1) := by decide +kernel
theorem dX10_init_136 : decode cX10_init 136 = .ok (.sipush 576, 3) := by decide +kernel
theorem dX10_init_139 : decode cX10_init 139 = .ok (.newarray .int, 2) := by decide +kernel
theorem dX10_init_141 : decode cX10_init 141 = .ok (.putfield 59, 3) := by decide +kernel
theorem dX10_init_144 : decode cX10_init 144 = .ok (.aload_n 0, 1) := by decide +kernel
theorem dX10_init_145 : decode cX10_init 145 = .ok (.sipush 576, 3) := by decide +kernel
theorem dX10_init_148 : decode cX10_init 148 = .ok (.newarray .boolean, 2) := by decide +kernel
theorem dX10_init_150 : decode cX10_init 150 = .ok (.putfield 62, 3) := by decide +kernel
theorem dX10_init_153 : decode cX10_init 153 = .ok (.aload_n 0, 1) := by decide +kernel
theorem dX10_init_154 : decode cX10_init 154 = .ok (.sipush 594, 3) := by decide +kernel
theorem dX10_init_157 : decode cX10_init 157 = .ok (.newarray .int, 2) := by decide +kernel
theorem dX10_init_159 : decode cX10_init 159 = .ok (.putfield 65, 3) := by decide +kernel
theorem dX10_init_162 : decode cX10_init 162 = .ok (.aload_n 0, 1) := by decide +kernel
theorem dX10_init_163 : decode cX10_init 163 = .ok (.sipush 594, 3) := by decide +kernel
theorem dX10_init_166 : decode cX10_init 166 = .ok (.newarray .int, 2) := by decide +kernel
theorem dX10_init_168 : decode cX10_init 168 = .ok (.putfield 68, 3) := by decide +kernel
theorem dX10_init_171 : decode cX10_init 171 = .ok (.aload_n 0, 1) := by decide +kernel
theorem dX10_init_172 : decode cX10_init 172 = .ok (.getfield 36, 3) := by decide +kernel
theorem dX10_init_175 : decode cX10_init 175 = .ok (.iconst 3, 1) := by decide +kernel
theorem dX10_init_176 : decode cX10_init 176 = .ok (.sipush 3000, 3) := by decide +kernel
theorem dX10_init_179 : decode cX10_init 179 = .ok (.iastore, 1) := by decide +kernel
theorem dX10_init_180 : decode cX10_init 180 = .ok (.aload_n 0, 1) := by decide +kernel
theorem dX10_init_181 : decode cX10_init 181 = .ok (.getfield 36, 3) := by decide +kernel
theorem dX10_init_184 : decode cX10_init 184 = .ok (.iconst 4, 1) := by decide +kernel
theorem dX10_init_185 : decode cX10_init 185 = .ok (.bipush (-20), 2) := by decide +kernel
theorem dX10_init_187 : decode cX10_init 187 = .ok (.iastore, 1) := by decide +kernel
theorem dX10_init_188 : decode cX10_init 188 = .ok (.aload_n 0, 1) := by decide +kernel
theorem dX10_init_189 : decode cX10_init 189 = .ok (.getfield 36, 3) := by decide +kernel
theorem dX10_init_192 : decode cX10_init 192 = .ok (.bipush 6, 2) := by decide +kernel
theorem dX10_init_194 : decode cX10_init 194 = .ok (.bipush 100, 2) := by decide +kernel
theorem dX10_init_196 : decode cX10_init 196 = .ok (.iastore, 1) := by decide +kernel
theorem dX10_init_197 : decode cX10_init 197 = .ok (.return_, 1) := by decide +kernel
theorem dX10_thrown_0 : decode cX10_thrown 0 = .ok (.aload_n 0, 1) := by decide +kernel
theorem dX10_thrown_1 : decode cX10_thrown 1 = .ok (.getfield 71, 3) := by decide +kernel
theorem dX10_thrown_4 : decode cX10_thrown 4 = .ok (.ireturn, 1) := by decide +kernel
theorem dX10_fail_0 : decode cX10_fail 0 = .ok (.aload_n 0, 1) := by decide +kernel
theorem dX10_fail_1 : decode cX10_fail 1 = .ok (.iload_n 1, 1) := by decide +kernel
theorem dX10_fail_2 : decode cX10_fail 2 = .ok (.putfield 71, 3) := by decide +kernel
theorem dX10_fail_5 : decode cX10_fail 5 = .ok (.iconst 0, 1) := by decide +kernel
theorem dX10_fail_6 : decode cX10_fail 6 = .ok (.ireturn, 1) := by decide +kernel
theorem dX10_isIn_0 : decode cX10_isIn 0 = .ok (.iload_n 0, 1) := by decide +kernel
theorem dX10_isIn_1 : decode cX10_isIn 1 = .ok (.iload_n 1, 1) := by decide +kernel
theorem dX10_isIn_2 : decode cX10_isIn 2 = .ok (.if_icmp .lt 12, 3) := by decide +kernel
theorem dX10_isIn_5 : decode cX10_isIn 5 = .ok (.iload_n 0, 1) := by decide +kernel
theorem dX10_isIn_6 : decode cX10_isIn 6 = .ok (.iload_n 2, 1) := by decide +kernel
theorem dX10_isIn_7 : decode cX10_isIn 7 = .ok (.if_icmp .gt 7, 3) := by decide +kernel
theorem dX10_isIn_10 : decode cX10_isIn 10 = .ok (.iconst 1, 1) := by decide +kernel
theorem dX10_isIn_11 : decode cX10_isIn 11 = .ok (.goto 4, 3) := by decide +kernel
theorem dX10_isIn_14 : decode cX10_isIn 14 = .ok (.iconst 0, 1) := by decide +kernel
theorem dX10_isIn_15 : decode cX10_isIn 15 = .ok (.ireturn, 1) := by decide +kernel
theorem dX10_isPlace_0 : decode cX10_isPlace 0 = .ok (.iload_n 0, 1) := by decide +kernel
theorem dX10_isPlace_1 : decode cX10_isPlace 1 = .ok (.iconst 0, 1) := by decide +kernel
theorem dX10_isPlace_2 : decode cX10_isPlace 2 = .ok (.bipush 23, 2) := by decide +kernel
theorem dX10_isPlace_4 : decode cX10_isPlace 4 = .ok (.invokestatic 74, 3) := by decide +kernel
theorem dX10_isPlace_7 : decode cX10_isPlace 7 = .ok (.ifCond .eq 17, 3) := by decide +kernel
theorem dX10_isPlace_10 : decode cX10_isPlace 10 = .ok (.iload_n 1, 1) := by decide +kernel
theorem dX10_isPlace_11 : decode cX10_isPlace 11 = .ok (.iconst 0, 1) := by decide +kernel
theorem dX10_isPlace_12 : decode cX10_isPlace 12 = .ok (.bipush 23, 2) := by decide +kernel
theorem dX10_isPlace_14 : decode cX10_isPlace 14 = .ok (.invokestatic 74, 3) := by decide +kernel
theorem dX10_isPlace_17 : decode cX10_isPlace 17 = .ok (.ifCond .eq 7, 3) := by decide +kernel
theorem dX10_isPlace_20 : decode cX10_isPlace 20 = .ok (.iconst 1, 1) := by decide +kernel
theorem dX10_isPlace_21 : decode cX10_isPlace 21 = .ok (.goto 4, 3) := by decide +kernel
theorem dX10_isPlace_24 : decode cX10_isPlace 24 = .ok (.iconst 0, 1) := by decide +kernel
theorem dX10_isPlace_25 : decode cX10_isPlace 25 = .ok (.ireturn, 1) := by decide +kernel
theorem dX10_at_0 : decode cX10_at 0 = .ok (.bipush 24, 2) := by decide +kernel
theorem dX10_at_2 : decode cX10_at 2 = .ok (.iload_n 1, 1) := by decide +kernel
theorem dX10_at_3 : decode cX10_at 3 = .ok (.imul, 1) := by decide +kernel
theorem dX10_at_4 : decode cX10_at 4 = .ok (.iload_n 0, 1) := by decide +kernel
theorem dX10_at_5 : decode cX10_at 5 = .ok (.iadd, 1) := by decide +kernel
theorem dX10_at_6 : decode cX10_at 6 = .ok (.ireturn, 1) := by decide +kernel
theorem dX10_isTarget_0 : decode cX10_isTarget 0 = .ok (.iload_n 1, 1) := by decide +kernel
theorem dX10_isTarget_1 : decode cX10_isTarget 1 = .ok (.iconst 0, 1) := by decide +kernel
theorem dX10_isTarget_2 : decode cX10_isTarget 2 = .ok (.aload_n 0, 1) := by decide +kernel
theorem dX10_isTarget_3 : decode cX10_isTarget 3 = .ok (.getfield 78, 3) := by decide +kernel
theorem dX10_isTarget_6 : decode cX10_isTarget 6 = .ok (.iconst 1, 1) := by decide +kernel
theorem dX10_isTarget_7 : decode cX10_isTarget 7 = .ok (.isub, 1) := by decide +kernel
theorem dX10_isTarget_8 : decode cX10_isTarget 8 = .ok (.invokestatic 74, 3) := by decide +kernel
theorem dX10_isTarget_11 : decode cX10_isTarget 11 = .ok (.ireturn, 1) := by decide +kernel
theorem dX10_isRectangle_0 : decode cX10_isRectangle 0 = .ok (.iload_n 0, 1) := by decide +kernel
theorem dX10_isRectangle_1 : decode cX10_isRectangle 1 = .ok (.iload_n 2, 1) := by decide +kernel
theorem dX10_isRectangle_2 : decode cX10_isRectangle 2 = .ok (.invokestatic 81, 3) := by decide +kernel
theorem dX10_isRectangle_5 : decode cX10_isRectangle 5 = .ok (.ifCond .eq 25, 3) := by decide +kernel
theorem dX10_isRectangle_8 : decode cX10_isRectangle 8 = .ok (.iload_n 1, 1) := by decide +kernel
theorem dX10_isRectangle_9 : decode cX10_isRectangle 9 = .ok (.iload_n 3, 1) := by decide +kernel
theorem dX10_isRectangle_10 : decode cX10_isRectangle 10 = .ok (.invokestatic 81, 3) := by decide +kernel
theorem dX10_isRectangle_13 : decode cX10_isRectangle 13 = .ok (.ifCond .eq 17, 3) := by decide +kernel
theorem dX10_isRectangle_16 : decode cX10_isRectangle 16 = .ok (.iload_n 0, 1) := by decide +kernel
theorem dX10_isRectangle_17 : decode cX10_isRectangle 17 = .ok (.iload_n 1, 1) := by decide +kernel
theorem dX10_isRectangle_18 : decode cX10_isRectangle 18 = .ok (.if_icmp .gt 12, 3) := by decide +kernel
theorem dX10_isRectangle_21 : decode cX10_isRectangle 21 = .ok (.iload_n 2, 1) := by decide +kernel
theorem dX10_isRectangle_22 : decode cX10_isRectangle 22 = .ok (.iload_n 3, 1) := by decide +kernel
theorem dX10_isRectangle_23 : decode cX10_isRectangle 23 = .ok (.if_icmp .gt 7, 3) := by decide +kernel
theorem dX10_isRectangle_26 : decode cX10_isRectangle 26 = .ok (.iconst 1, 1) := by decide +kernel
theorem dX10_isRectangle_27 : decode cX10_isRectangle 27 = .ok (.goto 4, 3) := by decide +kernel
theorem dX10_isRectangle_30 : decode cX10_isRectangle 30 = .ok (.iconst 0, 1) := by decide +kernel
theorem dX10_isRectangle_31 : decode cX10_isRectangle 31 = .ok (.ireturn, 1) := by decide +kernel
theorem dX10_raise_0 : decode cX10_raise 0 = .ok (.aload_n 0, 1) := by decide +kernel
theorem dX10_raise_1 : decode cX10_raise 1 = .ok (.iconst 0, 1) := by decide +kernel
theorem dX10_raise_2 : decode cX10_raise 2 = .ok (.putfield 71, 3) := by decide +kernel
theorem dX10_raise_5 : decode cX10_raise 5 = .ok (.iload_n 1, 1) := by decide +kernel
theorem dX10_raise_6 : decode cX10_raise 6 = .ok (.iload_n 2, 1) := by decide +kernel
theorem dX10_raise_7 : decode cX10_raise 7 = .ok (.iload_n 3, 1) := by decide +kernel
theorem dX10_raise_8 : decode cX10_raise 8 = .ok (.iload 4, 2) := by decide +kernel
theorem dX10_raise_10 : decode cX10_raise 10 = .ok (.invokestatic 85, 3) := by decide +kernel
theorem dX10_raise_13 : decode cX10_raise 13 = .ok (.ifCond .ne 9, 3) := by decide +kernel
theorem dX10_raise_16 : decode cX10_raise 16 = .ok (.aload_n 0, 1) := by decide +kernel
theorem dX10_raise_17 : decode cX10_raise 17 = .ok (.iconst 1, 1) := by decide +kernel
theorem dX10_raise_18 : decode cX10_raise 18 = .ok (.invokevirtual 89, 3) := by decide +kernel
theorem dX10_raise_21 : decode cX10_raise 21 = .ok (.ireturn, 1) := by decide +kernel
theorem dX10_raise_22 : decode cX10_raise 22 = .ok (.bipush (-100), 2) := by decide +kernel
theorem dX10_raise_24 : decode cX10_raise 24 = .ok (.istore 6, 2) := by decide +kernel
theorem dX10_raise_26 : decode cX10_raise 26 = .ok (.iload_n 3, 1) := by decide +kernel
theorem dX10_raise_27 : decode cX10_raise 27 = .ok (.istore 7, 2) := by decide +kernel
theorem dX10_raise_29 : decode cX10_raise 29 = .ok (.iload 7, 2) := by decide +kernel
theorem dX10_raise_31 : decode cX10_raise 31 = .ok (.iload 4, 2) := by decide +kernel
theorem dX10_raise_33 : decode cX10_raise 33 = .ok (.if_icmp .gt 77, 3) := by decide +kernel
theorem dX10_raise_36 : decode cX10_raise 36 = .ok (.iload_n 1, 1) := by decide +kernel
theorem dX10_raise_37 : decode cX10_raise 37 = .ok (.istore 8, 2) := by decide +kernel
theorem dX10_raise_39 : decode cX10_raise 39 = .ok (.iload 8, 2) := by decide +kernel
theorem dX10_raise_41 : decode cX10_raise 41 = .ok (.iload_n 2, 1) := by decide +kernel
theorem dX10_raise_42 : decode cX10_raise 42 = .ok (.if_icmp .gt 62, 3) := by decide +kernel
theorem dX10_raise_45 : decode cX10_raise 45 = .ok (.aload_n 0, 1) := by decide +kernel
theorem dX10_raise_46 : decode cX10_raise 46 = .ok (.getfield 9, 3) := by decide +kernel
theorem dX10_raise_49 : decode cX10_raise 49 = .ok (.iload 8, 2) := by decide +kernel
theorem dX10_raise_51 : decode cX10_raise 51 = .ok (.iload 7, 2) := by decide +kernel
theorem dX10_raise_53 : decode cX10_raise 53 = .ok (.invokestatic 93, 3) := by decide +kernel
theorem dX10_raise_56 : decode cX10_raise 56 = .ok (.iaload, 1) := by decide +kernel
theorem dX10_raise_57 : decode cX10_raise 57 = .ok (.i2l, 1) := by decide +kernel
theorem dX10_raise_58 : decode cX10_raise 58 = .ok (.iload 5, 2) := by decide +kernel
theorem dX10_raise_60 : decode cX10_raise 60 = .ok (.i2l, 1) := by decide +kernel
theorem dX10_raise_61 : decode cX10_raise 61 = .ok (.ladd, 1) := by decide +kernel
theorem dX10_raise_62 : decode cX10_raise 62 = .ok (.lstore 9, 2) := by decide +kernel
theorem dX10_raise_64 : decode cX10_raise 64 = .ok (.lload 9, 2) := by decide +kernel
theorem dX10_raise_66 : decode cX10_raise 66 = .ok (.ldc2_w 97, 3) := by decide +kernel
theorem dX10_raise_69 : decode cX10_raise 69 = .ok (.lcmp, 1) := by decide +kernel
theorem dX10_raise_70 : decode cX10_raise 70 = .ok (.ifCond .lt 12, 3) := by decide +kernel
theorem dX10_raise_73 : decode cX10_raise 73 = .ok (.lload 9, 2) := by decide +kernel
theorem dX10_raise_75 : decode cX10_raise 75 = .ok (.ldc2_w 99, 3) := by decide +kernel
theorem dX10_raise_78 : decode cX10_raise 78 = .ok (.lcmp, 1) := by decide +kernel
theorem dX10_raise_79 : decode cX10_raise 79 = .ok (.ifCond .le 9, 3) := by decide +kernel
theorem dX10_raise_82 : decode cX10_raise 82 = .ok (.aload_n 0, 1) := by decide +kernel
theorem dX10_raise_83 : decode cX10_raise 83 = .ok (.iconst 1, 1) := by decide +kernel
theorem dX10_raise_84 : decode cX10_raise 84 = .ok (.invokevirtual 89, 3) := by decide +kernel
theorem dX10_raise_87 : decode cX10_raise 87 = .ok (.ireturn, 1) := by decide +kernel
theorem dX10_raise_88 : decode cX10_raise 88 = .ok (.iload 6, 2) := by decide +kernel
theorem dX10_raise_90 : decode cX10_raise 90 = .ok (.lload 9, 2) := by decide +kernel
theorem dX10_raise_92 : decode cX10_raise 92 = .ok (.l2i, 1) := by decide +kernel
theorem dX10_raise_93 : decode cX10_raise 93 = .ok (.invokestatic 101, 3) := by decide +kernel
theorem dX10_raise_96 : decode cX10_raise 96 = .ok (.istore 6, 2) := by decide +kernel
theorem dX10_raise_98 : decode cX10_raise 98 = .ok (.iinc 8 1, 3) := by decide +kernel
theorem dX10_raise_101 : decode cX10_raise 101 = .ok (.goto (-62), 3) := by decide +kernel
theorem dX10_raise_104 : decode cX10_raise 104 = .ok (.iinc 7 1, 3) := by decide +kernel
theorem dX10_raise_107 : decode cX10_raise 107 = .ok (.goto (-78), 3) := by decide +kernel
theorem dX10_raise_110 : decode cX10_raise 110 = .ok (.iload_n 3, 1) := by decide +kernel
theorem dX10_raise_111 : decode cX10_raise 111 = .ok (.istore 7, 2) := by decide +kernel
theorem dX10_raise_113 : decode cX10_raise 113 = .ok (.iload 7, 2) := by decide +kernel
theorem dX10_raise_115 : decode cX10_raise 115 = .ok (.iload 4, 2) := by decide +kernel
theorem dX10_raise_117 : decode cX10_raise 117 = .ok (.if_icmp .gt 41, 3) := by decide +kernel
theorem dX10_raise_120 : decode cX10_raise 120 = .ok (.iload_n 1, 1) := by decide +kernel
theorem dX10_raise_121 : decode cX10_raise 121 = .ok (.istore 8, 2) := by decide +kernel
theorem dX10_raise_123 : decode cX10_raise 123 = .ok (.iload 8, 2) := by decide +kernel
theorem dX10_raise_125 : decode cX10_raise 125 = .ok (.iload_n 2, 1) := by decide +kernel
theorem dX10_raise_126 : decode cX10_raise 126 = .ok (.if_icmp .gt 26, 3) := by decide +kernel
theorem dX10_raise_129 : decode cX10_raise 129 = .ok (.aload_n 0, 1) := by decide +kernel
theorem dX10_raise_130 : decode cX10_raise 130 = .ok (.getfield 9, 3) := by decide +kernel
theorem dX10_raise_133 : decode cX10_raise 133 = .ok (.iload 8, 2) := by decide +kernel
theorem dX10_raise_135 : decode cX10_raise 135 = .ok (.iload 7, 2) := by decide +kernel
theorem dX10_raise_137 : decode cX10_raise 137 = .ok (.invokestatic 93, 3) := by decide +kernel
theorem dX10_raise_140 : decode cX10_raise 140 = .ok (.dup2, 1) := by decide +kernel
theorem dX10_raise_141 : decode cX10_raise 141 = .ok (.iaload, 1) := by decide +kernel
theorem dX10_raise_142 : decode cX10_raise 142 = .ok (.iload 5, 2) := by decide +kernel
theorem dX10_raise_144 : decode cX10_raise 144 = .ok (.iadd, 1) := by decide +kernel
theorem dX10_raise_145 : decode cX10_raise 145 = .ok (.iastore, 1) := by decide +kernel
theorem dX10_raise_146 : decode cX10_raise 146 = .ok (.iinc 8 1, 3) := by decide +kernel
theorem dX10_raise_149 : decode cX10_raise 149 = .ok (.goto (-26), 3) := by decide +kernel
theorem dX10_raise_152 : decode cX10_raise 152 = .ok (.iinc 7 1, 3) := by decide +kernel
theorem dX10_raise_155 : decode cX10_raise 155 = .ok (.goto (-42), 3) := by decide +kernel
theorem dX10_raise_158 : decode cX10_raise 158 = .ok (.iload 6, 2) := by decide +kernel
theorem dX10_raise_160 : decode cX10_raise 160 = .ok (.ireturn, 1) := by decide +kernel
theorem dX10_pave_0 : decode cX10_pave 0 = .ok (.aload_n 0, 1) := by decide +kernel
theorem dX10_pave_1 : decode cX10_pave 1 = .ok (.iconst 0, 1) := by decide +kernel
theorem dX10_pave_2 : decode cX10_pave 2 = .ok (.putfield 71, 3) := by decide +kernel
theorem dX10_pave_5 : decode cX10_pave 5 = .ok (.iload_n 1, 1) := by decide +kernel
theorem dX10_pave_6 : decode cX10_pave 6 = .ok (.iload_n 2, 1) := by decide +kernel
theorem dX10_pave_7 : decode cX10_pave 7 = .ok (.iload_n 3, 1) := by decide +kernel
theorem dX10_pave_8 : decode cX10_pave 8 = .ok (.iload 4, 2) := by decide +kernel
theorem dX10_pave_10 : decode cX10_pave 10 = .ok (.invokestatic 85, 3) := by decide +kernel
theorem dX10_pave_13 : decode cX10_pave 13 = .ok (.ifCond .eq 13, 3) := by decide +kernel
theorem dX10_pave_16 : decode cX10_pave 16 = .ok (.iload 5, 2) := by decide +kernel
theorem dX10_pave_18 : decode cX10_pave 18 = .ok (.iconst 0, 1) := by decide +kernel
theorem dX10_pave_19 : decode cX10_pave 19 = .ok (.iconst 3, 1) := by decide +kernel
theorem dX10_pave_20 : decode cX10_pave 20 = .ok (.invokestatic 74, 3) := by decide +kernel
theorem dX10_pave_23 : decode cX10_pave 23 = .ok (.ifCond .ne 9, 3) := by decide +kernel
theorem dX10_pave_26 : decode cX10_pave 26 = .ok (.aload_n 0, 1) := by decide +kernel
theorem dX10_pave_27 : decode cX10_pave 27 = .ok (.iconst 1, 1) := by decide +kernel
theorem dX10_pave_28 : decode cX10_pave 28 = .ok (.invokevirtual 89, 3) := by decide +kernel
theorem dX10_pave_31 : decode cX10_pave 31 = .ok (.ireturn, 1) := by decide +kernel
theorem dX10_pave_32 : decode cX10_pave 32 = .ok (.iload_n 3, 1) := by decide +kernel
theorem dX10_pave_33 : decode cX10_pave 33 = .ok (.istore 7, 2) := by decide +kernel
theorem dX10_pave_35 : decode cX10_pave 35 = .ok (.iload 7, 2) := by decide +kernel
theorem dX10_pave_37 : decode cX10_pave 37 = .ok (.iload 4, 2) := by decide +kernel
theorem dX10_pave_39 : decode cX10_pave 39 = .ok (.if_icmp .gt 52, 3) := by decide +kernel
theorem dX10_pave_42 : decode cX10_pave 42 = .ok (.iload_n 1, 1) := by decide +kernel
theorem dX10_pave_43 : decode cX10_pave 43 = .ok (.istore 8, 2) := by decide +kernel
theorem dX10_pave_45 : decode cX10_pave 45 = .ok (.iload 8, 2) := by decide +kernel
theorem dX10_pave_47 : decode cX10_pave 47 = .ok (.iload_n 2, 1) := by decide +kernel
theorem dX10_pave_48 : decode cX10_pave 48 = .ok (.if_icmp .gt 37, 3) := by decide +kernel
theorem dX10_pave_51 : decode cX10_pave 51 = .ok (.aload_n 0, 1) := by decide +kernel
theorem dX10_pave_52 : decode cX10_pave 52 = .ok (.getfield 13, 3) := by decide +kernel
theorem dX10_pave_55 : decode cX10_pave 55 = .ok (.iload 8, 2) := by decide +kernel
theorem dX10_pave_57 : decode cX10_pave 57 = .ok (.iload 7, 2) := by decide +kernel
theorem dX10_pave_59 : decode cX10_pave 59 = .ok (.invokestatic 93, 3) := by decide +kernel
theorem dX10_pave_62 : decode cX10_pave 62 = .ok (.iload 5, 2) := by decide +kernel
theorem dX10_pave_64 : decode cX10_pave 64 = .ok (.iastore, 1) := by decide +kernel
theorem dX10_pave_65 : decode cX10_pave 65 = .ok (.aload_n 0, 1) := by decide +kernel
theorem dX10_pave_66 : decode cX10_pave 66 = .ok (.getfield 16, 3) := by decide +kernel
theorem dX10_pave_69 : decode cX10_pave 69 = .ok (.iload 8, 2) := by decide +kernel
theorem dX10_pave_71 : decode cX10_pave 71 = .ok (.iload 7, 2) := by decide +kernel
theorem dX10_pave_73 : decode cX10_pave 73 = .ok (.invokestatic 93, 3) := by decide +kernel
theorem dX10_pave_76 : decode cX10_pave 76 = .ok (.iload 6, 2) := by decide +kernel
theorem dX10_pave_78 : decode cX10_pave 78 = .ok (.bastore, 1) := by decide +kernel
theorem dX10_pave_79 : decode cX10_pave 79 = .ok (.iinc 8 1, 3) := by decide +kernel
theorem dX10_pave_82 : decode cX10_pave 82 = .ok (.goto (-37), 3) := by decide +kernel
theorem dX10_pave_85 : decode cX10_pave 85 = .ok (.iinc 7 1, 3) := by decide +kernel
theorem dX10_pave_88 : decode cX10_pave 88 = .ok (.goto (-53), 3) := by decide +kernel
theorem dX10_pave_91 : decode cX10_pave 91 = .ok (.iload_n 2, 1) := by decide +kernel
theorem dX10_pave_92 : decode cX10_pave 92 = .ok (.iload_n 1, 1) := by decide +kernel
theorem dX10_pave_93 : decode cX10_pave 93 = .ok (.isub, 1) := by decide +kernel
theorem dX10_pave_94 : decode cX10_pave 94 = .ok (.iconst 1, 1) := by decide +kernel
theorem dX10_pave_95 : decode cX10_pave 95 = .ok (.iadd, 1) := by decide +kernel
theorem dX10_pave_96 : decode cX10_pave 96 = .ok (.iload 4, 2) := by decide +kernel
theorem dX10_pave_98 : decode cX10_pave 98 = .ok (.iload_n 3, 1) := by decide +kernel
theorem dX10_pave_99 : decode cX10_pave 99 = .ok (.isub, 1) := by decide +kernel
theorem dX10_pave_100 : decode cX10_pave 100 = .ok (.iconst 1, 1) := by decide +kernel
theorem dX10_pave_101 : decode cX10_pave 101 = .ok (.iadd, 1) := by decide +kernel
theorem dX10_pave_102 : decode cX10_pave 102 = .ok (.imul, 1) := by decide +kernel
theorem dX10_pave_103 : decode cX10_pave 103 = .ok (.ireturn, 1) := by decide +kernel
theorem dX10_ground_0 : decode cX10_ground 0 = .ok (.aload_n 0, 1) := by decide +kernel
theorem dX10_ground_1 : decode cX10_ground 1 = .ok (.iconst 0, 1) := by decide +kernel
theorem dX10_ground_2 : decode cX10_ground 2 = .ok (.putfield 71, 3) := by decide +kernel
theorem dX10_ground_5 : decode cX10_ground 5 = .ok (.iload_n 1, 1) := by decide +kernel
theorem dX10_ground_6 : decode cX10_ground 6 = .ok (.iload_n 2, 1) := by decide +kernel
theorem dX10_ground_7 : decode cX10_ground 7 = .ok (.invokestatic 81, 3) := by decide +kernel
theorem dX10_ground_10 : decode cX10_ground 10 = .ok (.ifCond .eq 12, 3) := by decide +kernel
theorem dX10_ground_13 : decode cX10_ground 13 = .ok (.iload_n 3, 1) := by decide +kernel
theorem dX10_ground_14 : decode cX10_ground 14 = .ok (.iconst 0, 1) := by decide +kernel
theorem dX10_ground_15 : decode cX10_ground 15 = .ok (.iconst 2, 1) := by decide +kernel
theorem dX10_ground_16 : decode cX10_ground 16 = .ok (.invokestatic 74, 3) := by decide +kernel
theorem dX10_ground_19 : decode cX10_ground 19 = .ok (.ifCond .ne 9, 3) := by decide +kernel
theorem dX10_ground_22 : decode cX10_ground 22 = .ok (.aload_n 0, 1) := by decide +kernel
theorem dX10_ground_23 : decode cX10_ground 23 = .ok (.iconst 1, 1) := by decide +kernel
theorem dX10_ground_24 : decode cX10_ground 24 = .ok (.invokevirtual 89, 3) := by decide +kernel
theorem dX10_ground_27 : decode cX10_ground 27 = .ok (.ireturn, 1) := by decide +kernel
theorem dX10_ground_28 : decode cX10_ground 28 = .ok (.iload_n 1, 1) := by decide +kernel
theorem dX10_ground_29 : decode cX10_ground 29 = .ok (.iload_n 2, 1) := by decide +kernel
theorem dX10_ground_30 : decode cX10_ground 30 = .ok (.invokestatic 93, 3) := by decide +kernel
theorem dX10_ground_33 : decode cX10_ground 33 = .ok (.istore 4, 2) := by decide +kernel
theorem dX10_ground_35 : decode cX10_ground 35 = .ok (.iload_n 3, 1) := by decide +kernel
theorem dX10_ground_36 : decode cX10_ground 36 = .ok (.ifCond .ne 13, 3) := by decide +kernel
theorem dX10_ground_39 : decode cX10_ground 39 = .ok (.aload_n 0, 1) := by decide +kernel
theorem dX10_ground_40 : decode cX10_ground 40 = .ok (.getfield 9, 3) := by decide +kernel
theorem dX10_ground_43 : decode cX10_ground 43 = .ok (.iload 4, 2) := by decide +kernel
theorem dX10_ground_45 : decode cX10_ground 45 = .ok (.iaload, 1) := by decide +kernel
theorem dX10_ground_46 : decode cX10_ground 46 = .ok (.goto 33, 3) := by decide +kernel
theorem dX10_ground_49 : decode cX10_ground 49 = .ok (.iload_n 3, 1) := by decide +kernel
theorem dX10_ground_50 : decode cX10_ground 50 = .ok (.iconst 1, 1) := by decide +kernel
theorem dX10_ground_51 : decode cX10_ground 51 = .ok (.if_icmp .ne 13, 3) := by decide +kernel
theorem dX10_ground_54 : decode cX10_ground 54 = .ok (.aload_n 0, 1) := by decide +kernel
theorem dX10_ground_55 : decode cX10_ground 55 = .ok (.getfield 13, 3) := by decide +kernel
theorem dX10_ground_58 : decode cX10_ground 58 = .ok (.iload 4, 2) := by decide +kernel
theorem dX10_ground_60 : decode cX10_ground 60 = .ok (.iaload, 1) := by decide +kernel
theorem dX10_ground_61 : decode cX10_ground 61 = .ok (.goto 18, 3) := by decide +kernel
theorem dX10_ground_64 : decode cX10_ground 64 = .ok (.aload_n 0, 1) := by decide +kernel
theorem dX10_ground_65 : decode cX10_ground 65 = .ok (.getfield 16, 3) := by decide +kernel
theorem dX10_ground_68 : decode cX10_ground 68 = .ok (.iload 4, 2) := by decide +kernel
theorem dX10_ground_70 : decode cX10_ground 70 = .ok (.baload, 1) := by decide +kernel
theorem dX10_ground_71 : decode cX10_ground 71 = .ok (.ifCond .eq 7, 3) := by decide +kernel
theorem dX10_ground_74 : decode cX10_ground 74 = .ok (.iconst 1, 1) := by decide +kernel
theorem dX10_ground_75 : decode cX10_ground 75 = .ok (.goto 4, 3) := by decide +kernel
theorem dX10_ground_78 : decode cX10_ground 78 = .ok (.iconst 0, 1) := by decide +kernel
theorem dX10_ground_79 : decode cX10_ground 79 = .ok (.ireturn, 1) := by decide +kernel
theorem dX10_setSlope_0 : decode cX10_setSlope 0 = .ok (.aload_n 0, 1) := by decide +kernel
theorem dX10_setSlope_1 : decode cX10_setSlope 1 = .ok (.iconst 0, 1) := by decide +kernel
theorem dX10_setSlope_2 : decode cX10_setSlope 2 = .ok (.putfield 71, 3) := by decide +kernel
theorem dX10_setSlope_5 : decode cX10_setSlope 5 = .ok (.iload_n 1, 1) := by decide +kernel
theorem dX10_setSlope_6 : decode cX10_setSlope 6 = .ok (.iconst 0, 1) := by decide +kernel
theorem dX10_setSlope_7 : decode cX10_setSlope 7 = .ok (.bipush 99, 2) := by decide +kernel
theorem dX10_setSlope_9 : decode cX10_setSlope 9 = .ok (.invokestatic 74, 3) := by decide +kernel
theorem dX10_setSlope_12 : decode cX10_setSlope 12 = .ok (.ifCond .ne 9, 3) := by decide +kernel
theorem dX10_setSlope_15 : decode cX10_setSlope 15 = .ok (.aload_n 0, 1) := by decide +kernel
theorem dX10_setSlope_16 : decode cX10_setSlope 16 = .ok (.iconst 1, 1) := by decide +kernel
theorem dX10_setSlope_17 : decode cX10_setSlope 17 = .ok (.invokevirtual 89, 3) := by decide +kernel
theorem dX10_setSlope_20 : decode cX10_setSlope 20 = .ok (.ireturn, 1) := by decide +kernel
theorem dX10_setSlope_21 : decode cX10_setSlope 21 = .ok (.aload_n 0, 1) := by decide +kernel
theorem dX10_setSlope_22 : decode cX10_setSlope 22 = .ok (.getfield 20, 3) := by decide +kernel
theorem dX10_setSlope_25 : decode cX10_setSlope 25 = .ok (.istore_n 2, 1) := by decide +kernel
theorem dX10_setSlope_26 : decode cX10_setSlope 26 = .ok (.aload_n 0, 1) := by decide +kernel
theorem dX10_setSlope_27 : decode cX10_setSlope 27 = .ok (.iload_n 1, 1) := by decide +kernel
theorem dX10_setSlope_28 : decode cX10_setSlope 28 = .ok (.putfield 20, 3) := by decide +kernel
theorem dX10_setSlope_31 : decode cX10_setSlope 31 = .ok (.iload_n 2, 1) := by decide +kernel
theorem dX10_setSlope_32 : decode cX10_setSlope 32 = .ok (.ireturn, 1) := by decide +kernel
theorem dX10_canStep_0 : decode cX10_canStep 0 = .ok (.iload_n 1, 1) := by decide +kernel
theorem dX10_canStep_1 : decode cX10_canStep 1 = .ok (.getstatic 106, 3) := by decide +kernel
theorem dX10_canStep_4 : decode cX10_canStep 4 = .ok (.iload_n 3, 1) := by decide +kernel
theorem dX10_canStep_5 : decode cX10_canStep 5 = .ok (.iaload, 1) := by decide +kernel
theorem dX10_canStep_6 : decode cX10_canStep 6 = .ok (.iadd, 1) := by decide +kernel
theorem dX10_canStep_7 : decode cX10_canStep 7 = .ok (.istore 4, 2) := by decide +kernel
theorem dX10_canStep_9 : decode cX10_canStep 9 = .ok (.iload_n 2, 1) := by decide +kernel
theorem dX10_canStep_10 : decode cX10_canStep 10 = .ok (.getstatic 109, 3) := by decide +kernel
theorem dX10_canStep_13 : decode cX10_canStep 13 = .ok (.iload_n 3, 1) := by decide +kernel
theorem dX10_canStep_14 : decode cX10_canStep 14 = .ok (.iaload, 1) := by decide +kernel
theorem dX10_canStep_15 : decode cX10_canStep 15 = .ok (.iadd, 1) := by decide +kernel
theorem dX10_canStep_16 : decode cX10_canStep 16 = .ok (.istore 5, 2) := by decide +kernel
theorem dX10_canStep_18 : decode cX10_canStep 18 = .ok (.iload_n 1, 1) := by decide +kernel
theorem dX10_canStep_19 : decode cX10_canStep 19 = .ok (.iload_n 2, 1) := by decide +kernel
theorem dX10_canStep_20 : decode cX10_canStep 20 = .ok (.invokestatic 81, 3) := by decide +kernel
theorem dX10_canStep_23 : decode cX10_canStep 23 = .ok (.ifCond .eq 61, 3) := by decide +kernel
theorem dX10_canStep_26 : decode cX10_canStep 26 = .ok (.iload 4, 2) := by decide +kernel
theorem dX10_canStep_28 : decode cX10_canStep 28 = .ok (.iload 5, 2) := by decide +kernel
theorem dX10_canStep_30 : decode cX10_canStep 30 = .ok (.invokestatic 81, 3) := by decide +kernel
theorem dX10_canStep_33 : decode cX10_canStep 33 = .ok (.ifCond .eq 51, 3) := by decide +kernel
theorem dX10_canStep_36 : decode cX10_canStep 36 = .ok (.aload_n 0, 1) := by decide +kernel
theorem dX10_canStep_37 : decode cX10_canStep 37 = .ok (.getfield 16, 3) := by decide +kernel
theorem dX10_canStep_40 : decode cX10_canStep 40 = .ok (.iload 4, 2) := by decide +kernel
theorem dX10_canStep_42 : decode cX10_canStep 42 = .ok (.iload 5, 2) := by decide +kernel
theorem dX10_canStep_44 : decode cX10_canStep 44 = .ok (.invokestatic 93, 3) := by decide +kernel
theorem dX10_canStep_47 : decode cX10_canStep 47 = .ok (.baload, 1) := by decide +kernel
theorem dX10_canStep_48 : decode cX10_canStep 48 = .ok (.ifCond .ne 36, 3) := by decide +kernel
theorem dX10_canStep_51 : decode cX10_canStep 51 = .ok (.aload_n 0, 1) := by decide +kernel
theorem dX10_canStep_52 : decode cX10_canStep 52 = .ok (.getfield 9, 3) := by decide +kernel
theorem dX10_canStep_55 : decode cX10_canStep 55 = .ok (.iload 4, 2) := by decide +kernel
theorem dX10_canStep_57 : decode cX10_canStep 57 = .ok (.iload 5, 2) := by decide +kernel
theorem dX10_canStep_59 : decode cX10_canStep 59 = .ok (.invokestatic 93, 3) := by decide +kernel
theorem dX10_canStep_62 : decode cX10_canStep 62 = .ok (.iaload, 1) := by decide +kernel
theorem dX10_canStep_63 : decode cX10_canStep 63 = .ok (.aload_n 0, 1) := by decide +kernel
theorem dX10_canStep_64 : decode cX10_canStep 64 = .ok (.getfield 9, 3) := by decide +kernel
theorem dX10_canStep_67 : decode cX10_canStep 67 = .ok (.iload_n 1, 1) := by decide +kernel
theorem dX10_canStep_68 : decode cX10_canStep 68 = .ok (.iload_n 2, 1) := by decide +kernel
theorem dX10_canStep_69 : decode cX10_canStep 69 = .ok (.invokestatic 93, 3) := by decide +kernel
theorem dX10_canStep_72 : decode cX10_canStep 72 = .ok (.iaload, 1) := by decide +kernel
theorem dX10_canStep_73 : decode cX10_canStep 73 = .ok (.isub, 1) := by decide +kernel
theorem dX10_canStep_74 : decode cX10_canStep 74 = .ok (.invokestatic 112, 3) := by decide +kernel
theorem dX10_canStep_77 : decode cX10_canStep 77 = .ok (.aload_n 0, 1) := by decide +kernel
theorem dX10_canStep_78 : decode cX10_canStep 78 = .ok (.getfield 20, 3) := by decide +kernel
theorem dX10_canStep_81 : decode cX10_canStep 81 = .ok (.if_icmp .le 5, 3) := by decide +kernel
theorem dX10_canStep_84 : decode cX10_canStep 84 = .ok (.iconst 0, 1) := by decide +kernel
theorem dX10_canStep_85 : decode cX10_canStep 85 = .ok (.ireturn, 1) := by decide +kernel
theorem dX10_canStep_86 : decode cX10_canStep 86 = .ok (.iload_n 3, 1) := by decide +kernel
theorem dX10_canStep_87 : decode cX10_canStep 87 = .ok (.iconst 2, 1) := by decide +kernel
theorem dX10_canStep_88 : decode cX10_canStep 88 = .ok (.irem, 1) := by decide +kernel
theorem dX10_canStep_89 : decode cX10_canStep 89 = .ok (.ifCond .eq 31, 3) := by decide +kernel
theorem dX10_canStep_92 : decode cX10_canStep 92 = .ok (.aload_n 0, 1) := by decide +kernel
theorem dX10_canStep_93 : decode cX10_canStep 93 = .ok (.getfield 16, 3) := by decide +kernel
theorem dX10_canStep_96 : decode cX10_canStep 96 = .ok (.iload 4, 2) := by decide +kernel
theorem dX10_canStep_98 : decode cX10_canStep 98 = .ok (.iload_n 2, 1) := by decide +kernel
theorem dX10_canStep_99 : decode cX10_canStep 99 = .ok (.invokestatic 93, 3) := by decide +kernel
theorem dX10_canStep_102 : decode cX10_canStep 102 = .ok (.baload, 1) := by decide +kernel
theorem dX10_canStep_103 : decode cX10_canStep 103 = .ok (.ifCond .ne 21, 3) := by decide +kernel
theorem dX10_canStep_106 : decode cX10_canStep 106 = .ok (.aload_n 0, 1) := by decide +kernel
theorem dX10_canStep_107 : decode cX10_canStep 107 = .ok (.getfield 16, 3) := by decide +kernel
theorem dX10_canStep_110 : decode cX10_canStep 110 = .ok (.iload_n 1, 1) := by decide +kernel
theorem dX10_canStep_111 : decode cX10_canStep 111 = .ok (.iload 5, 2) := by decide +kernel
theorem dX10_canStep_113 : decode cX10_canStep 113 = .ok (.invokestatic 93, 3) := by decide +kernel
theorem dX10_canStep_116 : decode cX10_canStep 116 = .ok (.baload, 1) := by decide +kernel
theorem dX10_canStep_117 : decode cX10_canStep 117 = .ok (.ifCond .ne 7, 3) := by decide +kernel
theorem dX10_canStep_120 : decode cX10_canStep 120 = .ok (.iconst 1, 1) := by decide +kernel
theorem dX10_canStep_121 : decode cX10_canStep 121 = .ok (.goto 4, 3) := by decide +kernel
theorem dX10_canStep_124 : decode cX10_canStep 124 = .ok (.iconst 0, 1) := by decide +kernel
theorem dX10_canStep_125 : decode cX10_canStep 125 = .ok (.ireturn, 1) := by decide +kernel
theorem dX10_climb_0 : decode cX10_climb 0 = .ok (.iconst 0, 1) := by decide +kernel
theorem dX10_climb_1 : decode cX10_climb 1 = .ok (.aload_n 0, 1) := by decide +kernel
theorem dX10_climb_2 : decode cX10_climb 2 = .ok (.getfield 9, 3) := by decide +kernel
theorem dX10_climb_5 : decode cX10_climb 5 = .ok (.iload_n 1, 1) := by decide +kernel
theorem dX10_climb_6 : decode cX10_climb 6 = .ok (.getstatic 106, 3) := by decide +kernel
theorem dX10_climb_9 : decode cX10_climb 9 = .ok (.iload_n 3, 1) := by decide +kernel
theorem dX10_climb_10 : decode cX10_climb 10 = .ok (.iaload, 1) := by decide +kernel
theorem dX10_climb_11 : decode cX10_climb 11 = .ok (.iadd, 1) := by decide +kernel
theorem dX10_climb_12 : decode cX10_climb 12 = .ok (.iload_n 2, 1) := by decide +kernel
theorem dX10_climb_13 : decode cX10_climb 13 = .ok (.getstatic 109, 3) := by decide +kernel
theorem dX10_climb_16 : decode cX10_climb 16 = .ok (.iload_n 3, 1) := by decide +kernel
theorem dX10_climb_17 : decode cX10_climb 17 = .ok (.iaload, 1) := by decide +kernel
theorem dX10_climb_18 : decode cX10_climb 18 = .ok (.iadd, 1) := by decide +kernel
theorem dX10_climb_19 : decode cX10_climb 19 = .ok (.invokestatic 93, 3) := by decide +kernel
theorem dX10_climb_22 : decode cX10_climb 22 = .ok (.iaload, 1) := by decide +kernel
theorem dX10_climb_23 : decode cX10_climb 23 = .ok (.aload_n 0, 1) := by decide +kernel
theorem dX10_climb_24 : decode cX10_climb 24 = .ok (.getfield 9, 3) := by decide +kernel
theorem dX10_climb_27 : decode cX10_climb 27 = .ok (.iload_n 1, 1) := by decide +kernel
theorem dX10_climb_28 : decode cX10_climb 28 = .ok (.iload_n 2, 1) := by decide +kernel
theorem dX10_climb_29 : decode cX10_climb 29 = .ok (.invokestatic 93, 3) := by decide +kernel
theorem dX10_climb_32 : decode cX10_climb 32 = .ok (.iaload, 1) := by decide +kernel
theorem dX10_climb_33 : decode cX10_climb 33 = .ok (.isub, 1) := by decide +kernel
theorem dX10_climb_34 : decode cX10_climb 34 = .ok (.invokestatic 101, 3) := by decide +kernel
theorem dX10_climb_37 : decode cX10_climb 37 = .ok (.ireturn, 1) := by decide +kernel
theorem dX10_minutes_0 : decode cX10_minutes 0 = .ok (.iload_n 3, 1) := by decide +kernel
theorem dX10_minutes_1 : decode cX10_minutes 1 = .ok (.iconst 2, 1) := by decide +kernel
theorem dX10_minutes_2 : decode cX10_minutes 2 = .ok (.irem, 1) := by decide +kernel
theorem dX10_minutes_3 : decode cX10_minutes 3 = .ok (.ifCond .ne 7, 3) := by decide +kernel
theorem dX10_minutes_6 : decode cX10_minutes 6 = .ok (.iconst 2, 1) := by decide +kernel
theorem dX10_minutes_7 : decode cX10_minutes 7 = .ok (.goto 4, 3) := by decide +kernel
theorem dX10_minutes_10 : decode cX10_minutes 10 = .ok (.iconst 3, 1) := by decide +kernel
theorem dX10_minutes_11 : decode cX10_minutes 11 = .ok (.iconst 2, 1) := by decide +kernel
theorem dX10_minutes_12 : decode cX10_minutes 12 = .ok (.aload_n 0, 1) := by decide +kernel
theorem dX10_minutes_13 : decode cX10_minutes 13 = .ok (.getfield 13, 3) := by decide +kernel
theorem dX10_minutes_16 : decode cX10_minutes 16 = .ok (.iload_n 1, 1) := by decide +kernel
theorem dX10_minutes_17 : decode cX10_minutes 17 = .ok (.getstatic 106, 3) := by decide +kernel
theorem dX10_minutes_20 : decode cX10_minutes 20 = .ok (.iload_n 3, 1) := by decide +kernel
theorem dX10_minutes_21 : decode cX10_minutes 21 = .ok (.iaload, 1) := by decide +kernel
theorem dX10_minutes_22 : decode cX10_minutes 22 = .ok (.iadd, 1) := by decide +kernel
theorem dX10_minutes_23 : decode cX10_minutes 23 = .ok (.iload_n 2, 1) := by decide +kernel
theorem dX10_minutes_24 : decode cX10_minutes 24 = .ok (.getstatic 109, 3) := by decide +kernel
theorem dX10_minutes_27 : decode cX10_minutes 27 = .ok (.iload_n 3, 1) := by decide +kernel
theorem dX10_minutes_28 : decode cX10_minutes 28 = .ok (.iaload, 1) := by decide +kernel
theorem dX10_minutes_29 : decode cX10_minutes 29 = .ok (.iadd, 1) := by decide +kernel
theorem dX10_minutes_30 : decode cX10_minutes 30 = .ok (.invokestatic 93, 3) := by decide +kernel
theorem dX10_minutes_33 : decode cX10_minutes 33 = .ok (.iaload, 1) := by decide +kernel
theorem dX10_minutes_34 : decode cX10_minutes 34 = .ok (.iadd, 1) := by decide +kernel
theorem dX10_minutes_35 : decode cX10_minutes 35 = .ok (.imul, 1) := by decide +kernel
theorem dX10_minutes_36 : decode cX10_minutes 36 = .ok (.aload_n 0, 1) := by decide +kernel
theorem dX10_minutes_37 : decode cX10_minutes 37 = .ok (.iload_n 1, 1) := by decide +kernel
theorem dX10_minutes_38 : decode cX10_minutes 38 = .ok (.iload_n 2, 1) := by decide +kernel
theorem dX10_minutes_39 : decode cX10_minutes 39 = .ok (.iload_n 3, 1) := by decide +kernel
theorem dX10_minutes_40 : decode cX10_minutes 40 = .ok (.invokevirtual 115, 3) := by decide +kernel
theorem dX10_minutes_43 : decode cX10_minutes 43 = .ok (.iconst 3, 1) := by decide +kernel
theorem dX10_minutes_44 : decode cX10_minutes 44 = .ok (.idiv, 1) := by decide +kernel
theorem dX10_minutes_45 : decode cX10_minutes 45 = .ok (.iadd, 1) := by decide +kernel
theorem dX10_minutes_46 : decode cX10_minutes 46 = .ok (.ireturn, 1) := by decide +kernel
theorem dX10_energy_0 : decode cX10_energy 0 = .ok (.iconst 4, 1) := by decide +kernel
theorem dX10_energy_1 : decode cX10_energy 1 = .ok (.aload_n 0, 1) := by decide +kernel
theorem dX10_energy_2 : decode cX10_energy 2 = .ok (.iload_n 1, 1) := by decide +kernel
theorem dX10_energy_3 : decode cX10_energy 3 = .ok (.iload_n 2, 1) := by decide +kernel
theorem dX10_energy_4 : decode cX10_energy 4 = .ok (.iload_n 3, 1) := by decide +kernel
theorem dX10_energy_5 : decode cX10_energy 5 = .ok (.invokevirtual 119, 3) := by decide +kernel
theorem dX10_energy_8 : decode cX10_energy 8 = .ok (.imul, 1) := by decide +kernel
theorem dX10_energy_9 : decode cX10_energy 9 = .ok (.iconst 2, 1) := by decide +kernel
theorem dX10_energy_10 : decode cX10_energy 10 = .ok (.aload_n 0, 1) := by decide +kernel
theorem dX10_energy_11 : decode cX10_energy 11 = .ok (.iload_n 1, 1) := by decide +kernel
theorem dX10_energy_12 : decode cX10_energy 12 = .ok (.iload_n 2, 1) := by decide +kernel
theorem dX10_energy_13 : decode cX10_energy 13 = .ok (.iload_n 3, 1) := by decide +kernel
theorem dX10_energy_14 : decode cX10_energy 14 = .ok (.invokevirtual 115, 3) := by decide +kernel
theorem dX10_energy_17 : decode cX10_energy 17 = .ok (.imul, 1) := by decide +kernel
theorem dX10_energy_18 : decode cX10_energy 18 = .ok (.iadd, 1) := by decide +kernel
theorem dX10_energy_19 : decode cX10_energy 19 = .ok (.ireturn, 1) := by decide +kernel
theorem dX10_reckonCosts_0 : decode cX10_reckonCosts 0 = .ok (.iconst 0, 1) := by decide +kernel
theorem dX10_reckonCosts_1 : decode cX10_reckonCosts 1 = .ok (.istore 4, 2) := by decide +kernel
theorem dX10_reckonCosts_3 : decode cX10_reckonCosts 3 = .ok (.iload 4, 2) := by decide +kernel
theorem dX10_reckonCosts_5 : decode cX10_reckonCosts 5 = .ok (.sipush 576, 3) := by decide +kernel
theorem dX10_reckonCosts_8 : decode cX10_reckonCosts 8 = .ok (.if_icmp .ge 18, 3) := by decide +kernel
theorem dX10_reckonCosts_11 : decode cX10_reckonCosts 11 = .ok (.aload_n 0, 1) := by decide +kernel
theorem dX10_reckonCosts_12 : decode cX10_reckonCosts 12 = .ok (.getfield 56, 3) := by decide +kernel
theorem dX10_reckonCosts_15 : decode cX10_reckonCosts 15 = .ok (.iload 4, 2) := by decide +kernel
theorem dX10_reckonCosts_17 : decode cX10_reckonCosts 17 = .ok (.ldc 122, 2) := by decide +kernel
theorem dX10_reckonCosts_19 : decode cX10_reckonCosts 19 = .ok (.iastore, 1) := by decide +kernel
theorem dX10_reckonCosts_20 : decode cX10_reckonCosts 20 = .ok (.iinc 4 1, 3) := by decide +kernel
theorem dX10_reckonCosts_23 : decode cX10_reckonCosts 23 = .ok (.goto (-20), 3) := by decide +kernel
theorem dX10_reckonCosts_26 : decode cX10_reckonCosts 26 = .ok (.aload_n 0, 1) := by decide +kernel
theorem dX10_reckonCosts_27 : decode cX10_reckonCosts 27 = .ok (.getfield 56, 3) := by decide +kernel
theorem dX10_reckonCosts_30 : decode cX10_reckonCosts 30 = .ok (.iload_n 1, 1) := by decide +kernel
theorem dX10_reckonCosts_31 : decode cX10_reckonCosts 31 = .ok (.iload_n 2, 1) := by decide +kernel
theorem dX10_reckonCosts_32 : decode cX10_reckonCosts 32 = .ok (.invokestatic 93, 3) := by decide +kernel
theorem dX10_reckonCosts_35 : decode cX10_reckonCosts 35 = .ok (.iconst 0, 1) := by decide +kernel
theorem dX10_reckonCosts_36 : decode cX10_reckonCosts 36 = .ok (.iastore, 1) := by decide +kernel
theorem dX10_reckonCosts_37 : decode cX10_reckonCosts 37 = .ok (.iconst 0, 1) := by decide +kernel
theorem dX10_reckonCosts_38 : decode cX10_reckonCosts 38 = .ok (.istore 4, 2) := by decide +kernel
theorem dX10_reckonCosts_40 : decode cX10_reckonCosts 40 = .ok (.iconst 1, 1) := by decide +kernel
theorem dX10_reckonCosts_41 : decode cX10_reckonCosts 41 = .ok (.istore 5, 2) := by decide +kernel
theorem dX10_reckonCosts_43 : decode cX10_reckonCosts 43 = .ok (.aload_n 0, 1) := by decide +kernel
theorem dX10_reckonCosts_44 : decode cX10_reckonCosts 44 = .ok (.getfield 59, 3) := by decide +kernel
theorem dX10_reckonCosts_47 : decode cX10_reckonCosts 47 = .ok (.iconst 0, 1) := by decide +kernel
theorem dX10_reckonCosts_48 : decode cX10_reckonCosts 48 = .ok (.iload_n 1, 1) := by decide +kernel
theorem dX10_reckonCosts_49 : decode cX10_reckonCosts 49 = .ok (.iload_n 2, 1) := by decide +kernel
theorem dX10_reckonCosts_50 : decode cX10_reckonCosts 50 = .ok (.invokestatic 93, 3) := by decide +kernel
theorem dX10_reckonCosts_53 : decode cX10_reckonCosts 53 = .ok (.iastore, 1) := by decide +kernel
theorem dX10_reckonCosts_54 : decode cX10_reckonCosts 54 = .ok (.iload 5, 2) := by decide +kernel
theorem dX10_reckonCosts_56 : decode cX10_reckonCosts 56 = .ok (.ifCond .le 262, 3) := by decide +kernel
theorem dX10_reckonCosts_59 : decode cX10_reckonCosts 59 = .ok (.aload_n 0, 1) := by decide +kernel
theorem dX10_reckonCosts_60 : decode cX10_reckonCosts 60 = .ok (.getfield 59, 3) := by decide +kernel
theorem dX10_reckonCosts_63 : decode cX10_reckonCosts 63 = .ok (.iload 4, 2) := by decide +kernel
theorem dX10_reckonCosts_65 : decode cX10_reckonCosts 65 = .ok (.iaload, 1) := by decide +kernel
theorem dX10_reckonCosts_66 : decode cX10_reckonCosts 66 = .ok (.istore 6, 2) := by decide +kernel
theorem dX10_reckonCosts_68 : decode cX10_reckonCosts 68 = .ok (.iload 4, 2) := by decide +kernel
theorem dX10_reckonCosts_70 : decode cX10_reckonCosts 70 = .ok (.iconst 1, 1) := by decide +kernel
theorem dX10_reckonCosts_71 : decode cX10_reckonCosts 71 = .ok (.iadd, 1) := by decide +kernel
theorem dX10_reckonCosts_72 : decode cX10_reckonCosts 72 = .ok (.sipush 576, 3) := by decide +kernel
theorem dX10_reckonCosts_75 : decode cX10_reckonCosts 75 = .ok (.irem, 1) := by decide +kernel
theorem dX10_reckonCosts_76 : decode cX10_reckonCosts 76 = .ok (.istore 4, 2) := by decide +kernel
theorem dX10_reckonCosts_78 : decode cX10_reckonCosts 78 = .ok (.iinc 5 (-1), 3) := by decide +kernel
theorem dX10_reckonCosts_81 : decode cX10_reckonCosts 81 = .ok (.aload_n 0, 1) := by decide +kernel
theorem dX10_reckonCosts_82 : decode cX10_reckonCosts 82 = .ok (.getfield 62, 3) := by decide +kernel
theorem dX10_reckonCosts_85 : decode cX10_reckonCosts 85 = .ok (.iload 6, 2) := by decide +kernel
theorem dX10_reckonCosts_87 : decode cX10_reckonCosts 87 = .ok (.iconst 0, 1) := by decide +kernel
theorem dX10_reckonCosts_88 : decode cX10_reckonCosts 88 = .ok (.bastore, 1) := by decide +kernel
theorem dX10_reckonCosts_89 : decode cX10_reckonCosts 89 = .ok (.iconst 0, 1) := by decide +kernel
theorem dX10_reckonCosts_90 : decode cX10_reckonCosts 90 = .ok (.istore 7, 2) := by decide +kernel
theorem dX10_reckonCosts_92 : decode cX10_reckonCosts 92 = .ok (.iload 7, 2) := by decide +kernel
theorem dX10_reckonCosts_94 : decode cX10_reckonCosts 94 = .ok (.bipush 8, 2) := by decide +kernel
theorem dX10_reckonCosts_96 : decode cX10_reckonCosts 96 = .ok (.if_icmp .ge 219, 3) := by decide +kernel
theorem dX10_reckonCosts_99 : decode cX10_reckonCosts 99 = .ok (.iload 6, 2) := by decide +kernel
theorem dX10_reckonCosts_101 : decode cX10_reckonCosts 101 = .ok (.bipush 24, 2) := by decide +kernel
theorem dX10_reckonCosts_103 : decode cX10_reckonCosts 103 = .ok (.irem, 1) := by decide +kernel
theorem dX10_reckonCosts_104 : decode cX10_reckonCosts 104 = .ok (.iload_n 3, 1) := by decide +kernel
theorem dX10_reckonCosts_105 : decode cX10_reckonCosts 105 = .ok (.ifCond .eq 13, 3) := by decide +kernel
theorem dX10_reckonCosts_108 : decode cX10_reckonCosts 108 = .ok (.getstatic 106, 3) := by decide +kernel
theorem dX10_reckonCosts_111 : decode cX10_reckonCosts 111 = .ok (.iload 7, 2) := by decide +kernel
theorem dX10_reckonCosts_113 : decode cX10_reckonCosts 113 = .ok (.iaload, 1) := by decide +kernel
theorem dX10_reckonCosts_114 : decode cX10_reckonCosts 114 = .ok (.ineg, 1) := by decide +kernel
theorem dX10_reckonCosts_115 : decode cX10_reckonCosts 115 = .ok (.goto 9, 3) := by decide +kernel
theorem dX10_reckonCosts_118 : decode cX10_reckonCosts 118 = .ok (.getstatic 106, 3) := by decide +kernel
theorem dX10_reckonCosts_121 : decode cX10_reckonCosts 121 = .ok (.iload 7, 2) := by decide +kernel
theorem dX10_reckonCosts_123 : decode cX10_reckonCosts 123 = .ok (.iaload, 1) := by decide +kernel
theorem dX10_reckonCosts_124 : decode cX10_reckonCosts 124 = .ok (.iadd, 1) := by decide +kernel
theorem dX10_reckonCosts_125 : decode cX10_reckonCosts 125 = .ok (.istore 8, 2) := by decide +kernel
theorem dX10_reckonCosts_127 : decode cX10_reckonCosts 127 = .ok (.iload 6, 2) := by decide +kernel
theorem dX10_reckonCosts_129 : decode cX10_reckonCosts 129 = .ok (.bipush 24, 2) := by decide +kernel
theorem dX10_reckonCosts_131 : decode cX10_reckonCosts 131 = .ok (.idiv, 1) := by decide +kernel
theorem dX10_reckonCosts_132 : decode cX10_reckonCosts 132 = .ok (.iload_n 3, 1) := by decide +kernel
theorem dX10_reckonCosts_133 : decode cX10_reckonCosts 133 = .ok (.ifCond .eq 13, 3) := by decide +kernel
theorem dX10_reckonCosts_136 : decode cX10_reckonCosts 136 = .ok (.getstatic 109, 3) := by decide +kernel
theorem dX10_reckonCosts_139 : decode cX10_reckonCosts 139 = .ok (.iload 7, 2) := by decide +kernel
theorem dX10_reckonCosts_141 : decode cX10_reckonCosts 141 = .ok (.iaload, 1) := by decide +kernel
theorem dX10_reckonCosts_142 : decode cX10_reckonCosts 142 = .ok (.ineg, 1) := by decide +kernel
theorem dX10_reckonCosts_143 : decode cX10_reckonCosts 143 = .ok (.goto 9, 3) := by decide +kernel
theorem dX10_reckonCosts_146 : decode cX10_reckonCosts 146 = .ok (.getstatic 109, 3) := by decide +kernel
theorem dX10_reckonCosts_149 : decode cX10_reckonCosts 149 = .ok (.iload 7, 2) := by decide +kernel
theorem dX10_reckonCosts_151 : decode cX10_reckonCosts 151 = .ok (.iaload, 1) := by decide +kernel
theorem dX10_reckonCosts_152 : decode cX10_reckonCosts 152 = .ok (.iadd, 1) := by decide +kernel
theorem dX10_reckonCosts_153 : decode cX10_reckonCosts 153 = .ok (.istore 9, 2) := by decide +kernel
theorem dX10_reckonCosts_155 : decode cX10_reckonCosts 155 = .ok (.iload 8, 2) := by decide +kernel
theorem dX10_reckonCosts_157 : decode cX10_reckonCosts 157 = .ok (.iload 9, 2) := by decide +kernel
theorem dX10_reckonCosts_159 : decode cX10_reckonCosts 159 = .ok (.invokestatic 81, 3) := by decide +kernel
theorem dX10_reckonCosts_162 : decode cX10_reckonCosts 162 = .ok (.ifCond .ne 6, 3) := by decide +kernel
theorem dX10_reckonCosts_165 : decode cX10_reckonCosts 165 = .ok (.goto 144, 3) := by decide +kernel
theorem dX10_reckonCosts_168 : decode cX10_reckonCosts 168 = .ok (.iload_n 3, 1) := by decide +kernel
theorem dX10_reckonCosts_169 : decode cX10_reckonCosts 169 = .ok (.ifCond .eq 8, 3) := by decide +kernel
theorem dX10_reckonCosts_172 : decode cX10_reckonCosts 172 = .ok (.iload 8, 2) := by decide +kernel
theorem dX10_reckonCosts_174 : decode cX10_reckonCosts 174 = .ok (.goto 8, 3) := by decide +kernel
theorem dX10_reckonCosts_177 : decode cX10_reckonCosts 177 = .ok (.iload 6, 2) := by decide +kernel
theorem dX10_reckonCosts_179 : decode cX10_reckonCosts 179 = .ok (.bipush 24, 2) := by decide +kernel
theorem dX10_reckonCosts_181 : decode cX10_reckonCosts 181 = .ok (.irem, 1) := by decide +kernel
theorem dX10_reckonCosts_182 : decode cX10_reckonCosts 182 = .ok (.istore 10, 2) := by decide +kernel
theorem dX10_reckonCosts_184 : decode cX10_reckonCosts 184 = .ok (.iload_n 3, 1) := by decide +kernel
theorem dX10_reckonCosts_185 : decode cX10_reckonCosts 185 = .ok (.ifCond .eq 8, 3) := by decide +kernel
theorem dX10_reckonCosts_188 : decode cX10_reckonCosts 188 = .ok (.iload 9, 2) := by decide +kernel
theorem dX10_reckonCosts_190 : decode cX10_reckonCosts 190 = .ok (.goto 8, 3) := by decide +kernel
theorem dX10_reckonCosts_193 : decode cX10_reckonCosts 193 = .ok (.iload 6, 2) := by decide +kernel
theorem dX10_reckonCosts_195 : decode cX10_reckonCosts 195 = .ok (.bipush 24, 2) := by decide +kernel
theorem dX10_reckonCosts_197 : decode cX10_reckonCosts 197 = .ok (.idiv, 1) := by decide +kernel
theorem dX10_reckonCosts_198 : decode cX10_reckonCosts 198 = .ok (.istore 11, 2) := by decide +kernel
theorem dX10_reckonCosts_200 : decode cX10_reckonCosts 200 = .ok (.aload_n 0, 1) := by decide +kernel
theorem dX10_reckonCosts_201 : decode cX10_reckonCosts 201 = .ok (.iload 10, 2) := by decide +kernel
theorem dX10_reckonCosts_203 : decode cX10_reckonCosts 203 = .ok (.iload 11, 2) := by decide +kernel
theorem dX10_reckonCosts_205 : decode cX10_reckonCosts 205 = .ok (.iload 7, 2) := by decide +kernel
theorem dX10_reckonCosts_207 : decode cX10_reckonCosts 207 = .ok (.invokevirtual 123, 3) := by decide +kernel
theorem dX10_reckonCosts_210 : decode cX10_reckonCosts 210 = .ok (.ifCond .ne 6, 3) := by decide +kernel
theorem dX10_reckonCosts_213 : decode cX10_reckonCosts 213 = .ok (.goto 96, 3) := by decide +kernel
theorem dX10_reckonCosts_216 : decode cX10_reckonCosts 216 = .ok (.aload_n 0, 1) := by decide +kernel
theorem dX10_reckonCosts_217 : decode cX10_reckonCosts 217 = .ok (.getfield 56, 3) := by decide +kernel
theorem dX10_reckonCosts_220 : decode cX10_reckonCosts 220 = .ok (.iload 6, 2) := by decide +kernel
theorem dX10_reckonCosts_222 : decode cX10_reckonCosts 222 = .ok (.iaload, 1) := by decide +kernel
theorem dX10_reckonCosts_223 : decode cX10_reckonCosts 223 = .ok (.aload_n 0, 1) := by decide +kernel
theorem dX10_reckonCosts_224 : decode cX10_reckonCosts 224 = .ok (.iload 10, 2) := by decide +kernel
theorem dX10_reckonCosts_226 : decode cX10_reckonCosts 226 = .ok (.iload 11, 2) := by decide +kernel
theorem dX10_reckonCosts_228 : decode cX10_reckonCosts 228 = .ok (.iload 7, 2) := by decide +kernel
theorem dX10_reckonCosts_230 : decode cX10_reckonCosts 230 = .ok (.invokevirtual 119, 3) := by decide +kernel
theorem dX10_reckonCosts_233 : decode cX10_reckonCosts 233 = .ok (.iadd, 1) := by decide +kernel
theorem dX10_reckonCosts_234 : decode cX10_reckonCosts 234 = .ok (.istore 12, 2) := by decide +kernel
theorem dX10_reckonCosts_236 : decode cX10_reckonCosts 236 = .ok (.iload 8, 2) := by decide +kernel
theorem dX10_reckonCosts_238 : decode cX10_reckonCosts 238 = .ok (.iload 9, 2) := by decide +kernel
theorem dX10_reckonCosts_240 : decode cX10_reckonCosts 240 = .ok (.invokestatic 93, 3) := by decide +kernel
theorem dX10_reckonCosts_243 : decode cX10_reckonCosts 243 = .ok (.istore 13, 2) := by decide +kernel
theorem dX10_reckonCosts_245 : decode cX10_reckonCosts 245 = .ok (.iload 12, 2) := by decide +kernel
theorem dX10_reckonCosts_247 : decode cX10_reckonCosts 247 = .ok (.aload_n 0, 1) := by decide +kernel
theorem dX10_reckonCosts_248 : decode cX10_reckonCosts 248 = .ok (.getfield 56, 3) := by decide +kernel
theorem dX10_reckonCosts_251 : decode cX10_reckonCosts 251 = .ok (.iload 13, 2) := by decide +kernel
theorem dX10_reckonCosts_253 : decode cX10_reckonCosts 253 = .ok (.iaload, 1) := by decide +kernel
theorem dX10_reckonCosts_254 : decode cX10_reckonCosts 254 = .ok (.if_icmp .lt 6, 3) := by decide +kernel
theorem dX10_reckonCosts_257 : decode cX10_reckonCosts 257 = .ok (.goto 52, 3) := by decide +kernel
theorem dX10_reckonCosts_260 : decode cX10_reckonCosts 260 = .ok (.aload_n 0, 1) := by decide +kernel
theorem dX10_reckonCosts_261 : decode cX10_reckonCosts 261 = .ok (.getfield 56, 3) := by decide +kernel
theorem dX10_reckonCosts_264 : decode cX10_reckonCosts 264 = .ok (.iload 13, 2) := by decide +kernel
theorem dX10_reckonCosts_266 : decode cX10_reckonCosts 266 = .ok (.iload 12, 2) := by decide +kernel
theorem dX10_reckonCosts_268 : decode cX10_reckonCosts 268 = .ok (.iastore, 1) := by decide +kernel
theorem dX10_reckonCosts_269 : decode cX10_reckonCosts 269 = .ok (.aload_n 0, 1) := by decide +kernel
theorem dX10_reckonCosts_270 : decode cX10_reckonCosts 270 = .ok (.getfield 62, 3) := by decide +kernel
theorem dX10_reckonCosts_273 : decode cX10_reckonCosts 273 = .ok (.iload 13, 2) := by decide +kernel
theorem dX10_reckonCosts_275 : decode cX10_reckonCosts 275 = .ok (.baload, 1) := by decide +kernel
theorem dX10_reckonCosts_276 : decode cX10_reckonCosts 276 = .ok (.ifCond .eq 6, 3) := by decide +kernel
theorem dX10_reckonCosts_279 : decode cX10_reckonCosts 279 = .ok (.goto 30, 3) := by decide +kernel
theorem dX10_reckonCosts_282 : decode cX10_reckonCosts 282 = .ok (.aload_n 0, 1) := by decide +kernel
theorem dX10_reckonCosts_283 : decode cX10_reckonCosts 283 = .ok (.getfield 62, 3) := by decide +kernel
theorem dX10_reckonCosts_286 : decode cX10_reckonCosts 286 = .ok (.iload 13, 2) := by decide +kernel
theorem dX10_reckonCosts_288 : decode cX10_reckonCosts 288 = .ok (.iconst 1, 1) := by decide +kernel
theorem dX10_reckonCosts_289 : decode cX10_reckonCosts 289 = .ok (.bastore, 1) := by decide +kernel
theorem dX10_reckonCosts_290 : decode cX10_reckonCosts 290 = .ok (.aload_n 0, 1) := by decide +kernel
theorem dX10_reckonCosts_291 : decode cX10_reckonCosts 291 = .ok (.getfield 59, 3) := by decide +kernel
theorem dX10_reckonCosts_294 : decode cX10_reckonCosts 294 = .ok (.iload 4, 2) := by decide +kernel
theorem dX10_reckonCosts_296 : decode cX10_reckonCosts 296 = .ok (.iload 5, 2) := by decide +kernel
theorem dX10_reckonCosts_298 : decode cX10_reckonCosts 298 = .ok (.iadd, 1) := by decide +kernel
theorem dX10_reckonCosts_299 : decode cX10_reckonCosts 299 = .ok (.sipush 576, 3) := by decide +kernel
theorem dX10_reckonCosts_302 : decode cX10_reckonCosts 302 = .ok (.irem, 1) := by decide +kernel
theorem dX10_reckonCosts_303 : decode cX10_reckonCosts 303 = .ok (.iload 13, 2) := by decide +kernel
theorem dX10_reckonCosts_305 : decode cX10_reckonCosts 305 = .ok (.iastore, 1) := by decide +kernel
theorem dX10_reckonCosts_306 : decode cX10_reckonCosts 306 = .ok (.iinc 5 1, 3) := by decide +kernel
theorem dX10_reckonCosts_309 : decode cX10_reckonCosts 309 = .ok (.iinc 7 1, 3) := by decide +kernel
theorem dX10_reckonCosts_312 : decode cX10_reckonCosts 312 = .ok (.goto (-220), 3) := by decide +kernel
theorem dX10_reckonCosts_315 : decode cX10_reckonCosts 315 = .ok (.goto (-261), 3) := by decide +kernel
theorem dX10_reckonCosts_318 : decode cX10_reckonCosts 318 = .ok (.return_, 1) := by decide +kernel
theorem dX10_direction_0 : decode cX10_direction 0 = .ok (.iconst 0, 1) := by decide +kernel
theorem dX10_direction_1 : decode cX10_direction 1 = .ok (.istore_n 3, 1) := by decide +kernel
theorem dX10_direction_2 : decode cX10_direction 2 = .ok (.iload_n 3, 1) := by decide +kernel
theorem dX10_direction_3 : decode cX10_direction 3 = .ok (.bipush 8, 2) := by decide +kernel
theorem dX10_direction_5 : decode cX10_direction 5 = .ok (.if_icmp .ge 64, 3) := by decide +kernel
theorem dX10_direction_8 : decode cX10_direction 8 = .ok (.aload_n 0, 1) := by decide +kernel
theorem dX10_direction_9 : decode cX10_direction 9 = .ok (.iload_n 1, 1) := by decide +kernel
theorem dX10_direction_10 : decode cX10_direction 10 = .ok (.iload_n 2, 1) := by decide +kernel
theorem dX10_direction_11 : decode cX10_direction 11 = .ok (.iload_n 3, 1) := by decide +kernel
theorem dX10_direction_12 : decode cX10_direction 12 = .ok (.invokevirtual 123, 3) := by decide +kernel
theorem dX10_direction_15 : decode cX10_direction 15 = .ok (.ifCond .eq 48, 3) := by decide +kernel
theorem dX10_direction_18 : decode cX10_direction 18 = .ok (.aload_n 0, 1) := by decide +kernel
theorem dX10_direction_19 : decode cX10_direction 19 = .ok (.getfield 56, 3) := by decide +kernel
theorem dX10_direction_22 : decode cX10_direction 22 = .ok (.iload_n 1, 1) := by decide +kernel
theorem dX10_direction_23 : decode cX10_direction 23 = .ok (.iload_n 2, 1) := by decide +kernel
theorem dX10_direction_24 : decode cX10_direction 24 = .ok (.invokestatic 93, 3) := by decide +kernel
theorem dX10_direction_27 : decode cX10_direction 27 = .ok (.iaload, 1) := by decide +kernel
theorem dX10_direction_28 : decode cX10_direction 28 = .ok (.aload_n 0, 1) := by decide +kernel
theorem dX10_direction_29 : decode cX10_direction 29 = .ok (.iload_n 1, 1) := by decide +kernel
theorem dX10_direction_30 : decode cX10_direction 30 = .ok (.iload_n 2, 1) := by decide +kernel
theorem dX10_direction_31 : decode cX10_direction 31 = .ok (.iload_n 3, 1) := by decide +kernel
theorem dX10_direction_32 : decode cX10_direction 32 = .ok (.invokevirtual 119, 3) := by decide +kernel
theorem dX10_direction_35 : decode cX10_direction 35 = .ok (.aload_n 0, 1) := by decide +kernel
theorem dX10_direction_36 : decode cX10_direction 36 = .ok (.getfield 56, 3) := by decide +kernel
theorem dX10_direction_39 : decode cX10_direction 39 = .ok (.iload_n 1, 1) := by decide +kernel
theorem dX10_direction_40 : decode cX10_direction 40 = .ok (.getstatic 106, 3) := by decide +kernel
theorem dX10_direction_43 : decode cX10_direction 43 = .ok (.iload_n 3, 1) := by decide +kernel
theorem dX10_direction_44 : decode cX10_direction 44 = .ok (.iaload, 1) := by decide +kernel
theorem dX10_direction_45 : decode cX10_direction 45 = .ok (.iadd, 1) := by decide +kernel
theorem dX10_direction_46 : decode cX10_direction 46 = .ok (.iload_n 2, 1) := by decide +kernel
theorem dX10_direction_47 : decode cX10_direction 47 = .ok (.getstatic 109, 3) := by decide +kernel
theorem dX10_direction_50 : decode cX10_direction 50 = .ok (.iload_n 3, 1) := by decide +kernel
theorem dX10_direction_51 : decode cX10_direction 51 = .ok (.iaload, 1) := by decide +kernel
theorem dX10_direction_52 : decode cX10_direction 52 = .ok (.iadd, 1) := by decide +kernel
theorem dX10_direction_53 : decode cX10_direction 53 = .ok (.invokestatic 93, 3) := by decide +kernel
theorem dX10_direction_56 : decode cX10_direction 56 = .ok (.iaload, 1) := by decide +kernel
theorem dX10_direction_57 : decode cX10_direction 57 = .ok (.iadd, 1) := by decide +kernel
theorem dX10_direction_58 : decode cX10_direction 58 = .ok (.if_icmp .ne 5, 3) := by decide +kernel
theorem dX10_direction_61 : decode cX10_direction 61 = .ok (.iload_n 3, 1) := by decide +kernel
theorem dX10_direction_62 : decode cX10_direction 62 = .ok (.ireturn, 1) := by decide +kernel
theorem dX10_direction_63 : decode cX10_direction 63 = .ok (.iinc 3 1, 3) := by decide +kernel
theorem dX10_direction_66 : decode cX10_direction 66 = .ok (.goto (-64), 3) := by decide +kernel
theorem dX10_direction_69 : decode cX10_direction 69 = .ok (.iconst (-1), 1) := by decide +kernel
theorem dX10_direction_70 : decode cX10_direction 70 = .ok (.ireturn, 1) := by decide +kernel
theorem dX10_way_0 : decode cX10_way 0 = .ok (.aload_n 0, 1) := by decide +kernel
theorem dX10_way_1 : decode cX10_way 1 = .ok (.iconst 0, 1) := by decide +kernel
theorem dX10_way_2 : decode cX10_way 2 = .ok (.putfield 71, 3) := by decide +kernel
theorem dX10_way_5 : decode cX10_way 5 = .ok (.iload_n 1, 1) := by decide +kernel
theorem dX10_way_6 : decode cX10_way 6 = .ok (.iload_n 2, 1) := by decide +kernel
theorem dX10_way_7 : decode cX10_way 7 = .ok (.invokestatic 81, 3) := by decide +kernel
theorem dX10_way_10 : decode cX10_way 10 = .ok (.ifCond .eq 22, 3) := by decide +kernel
theorem dX10_way_13 : decode cX10_way 13 = .ok (.iload_n 3, 1) := by decide +kernel
theorem dX10_way_14 : decode cX10_way 14 = .ok (.iload 4, 2) := by decide +kernel
theorem dX10_way_16 : decode cX10_way 16 = .ok (.invokestatic 81, 3) := by decide +kernel
theorem dX10_way_19 : decode cX10_way 19 = .ok (.ifCond .eq 13, 3) := by decide +kernel
theorem dX10_way_22 : decode cX10_way 22 = .ok (.iload 5, 2) := by decide +kernel
theorem dX10_way_24 : decode cX10_way 24 = .ok (.iconst 0, 1) := by decide +kernel
theorem dX10_way_25 : decode cX10_way 25 = .ok (.iconst 3, 1) := by decide +kernel
theorem dX10_way_26 : decode cX10_way 26 = .ok (.invokestatic 74, 3) := by decide +kernel
theorem dX10_way_29 : decode cX10_way 29 = .ok (.ifCond .ne 9, 3) := by decide +kernel
theorem dX10_way_32 : decode cX10_way 32 = .ok (.aload_n 0, 1) := by decide +kernel
theorem dX10_way_33 : decode cX10_way 33 = .ok (.iconst 1, 1) := by decide +kernel
theorem dX10_way_34 : decode cX10_way 34 = .ok (.invokevirtual 89, 3) := by decide +kernel
theorem dX10_way_37 : decode cX10_way 37 = .ok (.ireturn, 1) := by decide +kernel
theorem dX10_way_38 : decode cX10_way 38 = .ok (.aload_n 0, 1) := by decide +kernel
theorem dX10_way_39 : decode cX10_way 39 = .ok (.iload_n 3, 1) := by decide +kernel
theorem dX10_way_40 : decode cX10_way 40 = .ok (.iload 4, 2) := by decide +kernel
theorem dX10_way_42 : decode cX10_way 42 = .ok (.iconst 1, 1) := by decide +kernel
theorem dX10_way_43 : decode cX10_way 43 = .ok (.invokevirtual 126, 3) := by decide +kernel
theorem dX10_way_46 : decode cX10_way 46 = .ok (.aload_n 0, 1) := by decide +kernel
theorem dX10_way_47 : decode cX10_way 47 = .ok (.getfield 56, 3) := by decide +kernel
theorem dX10_way_50 : decode cX10_way 50 = .ok (.iload_n 1, 1) := by decide +kernel
theorem dX10_way_51 : decode cX10_way 51 = .ok (.iload_n 2, 1) := by decide +kernel

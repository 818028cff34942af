theorem dX9_rover_28 : decode cX9_rover 28 = .ok (.ireturn, 1) := by decide +kernel
theorem dX9_piece_0 : decode cX9_piece 0 = .ok (.aload_n 0, 1) := by decide +kernel
theorem dX9_piece_1 : decode cX9_piece 1 = .ok (.getfield 60, 3) := by decide +kernel
theorem dX9_piece_4 : decode cX9_piece 4 = .ok (.iload_n 1, 1) := by decide +kernel
theorem dX9_piece_5 : decode cX9_piece 5 = .ok (.invokevirtual 227, 3) := by decide +kernel
theorem dX9_piece_8 : decode cX9_piece 8 = .ok (.ifCond .eq 12, 3) := by decide +kernel
theorem dX9_piece_11 : decode cX9_piece 11 = .ok (.iload_n 2, 1) := by decide +kernel
theorem dX9_piece_12 : decode cX9_piece 12 = .ok (.ifCond .lt 8, 3) := by decide +kernel
theorem dX9_piece_15 : decode cX9_piece 15 = .ok (.iload_n 2, 1) := by decide +kernel
theorem dX9_piece_16 : decode cX9_piece 16 = .ok (.iconst 3, 1) := by decide +kernel
theorem dX9_piece_17 : decode cX9_piece 17 = .ok (.if_icmp .le 13, 3) := by decide +kernel
theorem dX9_piece_20 : decode cX9_piece 20 = .ok (.new 109, 3) := by decide +kernel
theorem dX9_piece_23 : decode cX9_piece 23 = .ok (.dup, 1) := by decide +kernel
theorem dX9_piece_24 : decode cX9_piece 24 = .ok (.ldc 230, 2) := by decide +kernel
theorem dX9_piece_26 : decode cX9_piece 26 = .ok (.invokespecial 113, 3) := by decide +kernel
theorem dX9_piece_29 : decode cX9_piece 29 = .ok (.athrow, 1) := by decide +kernel
theorem dX9_piece_30 : decode cX9_piece 30 = .ok (.aload_n 0, 1) := by decide +kernel
theorem dX9_piece_31 : decode cX9_piece 31 = .ok (.getfield 60, 3) := by decide +kernel
theorem dX9_piece_34 : decode cX9_piece 34 = .ok (.iload_n 1, 1) := by decide +kernel
theorem dX9_piece_35 : decode cX9_piece 35 = .ok (.iload_n 2, 1) := by decide +kernel
theorem dX9_piece_36 : decode cX9_piece 36 = .ok (.invokevirtual 232, 3) := by decide +kernel
theorem dX9_piece_39 : decode cX9_piece 39 = .ok (.ireturn, 1) := by decide +kernel
theorem dX9_activity_0 : decode cX9_activity 0 = .ok (.aload_n 0, 1) := by decide +kernel
theorem dX9_activity_1 : decode cX9_activity 1 = .ok (.getfield 70, 3) := by decide +kernel
theorem dX9_activity_4 : decode cX9_activity 4 = .ok (.iload_n 1, 1) := by decide +kernel
theorem dX9_activity_5 : decode cX9_activity 5 = .ok (.invokevirtual 265, 3) := by decide +kernel
theorem dX9_activity_8 : decode cX9_activity 8 = .ok (.ifCond .eq 12, 3) := by decide +kernel
theorem dX9_activity_11 : decode cX9_activity 11 = .ok (.iload_n 2, 1) := by decide +kernel
theorem dX9_activity_12 : decode cX9_activity 12 = .ok (.ifCond .lt 8, 3) := by decide +kernel
theorem dX9_activity_15 : decode cX9_activity 15 = .ok (.iload_n 2, 1) := by decide +kernel
theorem dX9_activity_16 : decode cX9_activity 16 = .ok (.iconst 2, 1) := by decide +kernel
theorem dX9_activity_17 : decode cX9_activity 17 = .ok (.if_icmp .le 14, 3) := by decide +kernel
theorem dX9_activity_20 : decode cX9_activity 20 = .ok (.new 109, 3) := by decide +kernel
theorem dX9_activity_23 : decode cX9_activity 23 = .ok (.dup, 1) := by decide +kernel
theorem dX9_activity_24 : decode cX9_activity 24 = .ok (.ldc_w 273, 3) := by decide +kernel
theorem dX9_activity_27 : decode cX9_activity 27 = .ok (.invokespecial 113, 3) := by decide +kernel
theorem dX9_activity_30 : decode cX9_activity 30 = .ok (.athrow, 1) := by decide +kernel
theorem dX9_activity_31 : decode cX9_activity 31 = .ok (.aload_n 0, 1) := by decide +kernel
theorem dX9_activity_32 : decode cX9_activity 32 = .ok (.getfield 70, 3) := by decide +kernel
theorem dX9_activity_35 : decode cX9_activity 35 = .ok (.iload_n 1, 1) := by decide +kernel
theorem dX9_activity_36 : decode cX9_activity 36 = .ok (.iload_n 2, 1) := by decide +kernel
theorem dX9_activity_37 : decode cX9_activity 37 = .ok (.invokevirtual 266, 3) := by decide +kernel
theorem dX9_activity_40 : decode cX9_activity 40 = .ok (.ireturn, 1) := by decide +kernel
theorem dX9_count_0 : decode cX9_count 0 = .ok (.iload_n 1, 1) := by decide +kernel
theorem dX9_count_1 : decode cX9_count 1 = .ok (.ifCond .lt 8, 3) := by decide +kernel
theorem dX9_count_4 : decode cX9_count 4 = .ok (.iload_n 1, 1) := by decide +kernel
theorem dX9_count_5 : decode cX9_count 5 = .ok (.iconst 3, 1) := by decide +kernel
theorem dX9_count_6 : decode cX9_count 6 = .ok (.if_icmp .le 13, 3) := by decide +kernel
theorem dX9_count_9 : decode cX9_count 9 = .ok (.new 109, 3) := by decide +kernel
theorem dX9_count_12 : decode cX9_count 12 = .ok (.dup, 1) := by decide +kernel
theorem dX9_count_13 : decode cX9_count 13 = .ok (.ldc 223, 2) := by decide +kernel
theorem dX9_count_15 : decode cX9_count 15 = .ok (.invokespecial 113, 3) := by decide +kernel
theorem dX9_count_18 : decode cX9_count 18 = .ok (.athrow, 1) := by decide +kernel
theorem dX9_count_19 : decode cX9_count 19 = .ok (.aload_n 0, 1) := by decide +kernel
theorem dX9_count_20 : decode cX9_count 20 = .ok (.iload_n 1, 1) := by decide +kernel
theorem dX9_count_21 : decode cX9_count 21 = .ok (.invokevirtual 275, 3) := by decide +kernel
theorem dX9_count_24 : decode cX9_count 24 = .ok (.ireturn, 1) := by decide +kernel
theorem dX9_check_0 : decode cX9_check 0 = .ok (.aload_n 0, 1) := by decide +kernel
theorem dX9_check_1 : decode cX9_check 1 = .ok (.aload_n 0, 1) := by decide +kernel
theorem dX9_check_2 : decode cX9_check 2 = .ok (.getfield 70, 3) := by decide +kernel
theorem dX9_check_5 : decode cX9_check 5 = .ok (.getfield 247, 3) := by decide +kernel
theorem dX9_check_8 : decode cX9_check 8 = .ok (.invokevirtual 278, 3) := by decide +kernel
theorem dX9_check_11 : decode cX9_check 11 = .ok (.istore_n 1, 1) := by decide +kernel
theorem dX9_check_12 : decode cX9_check 12 = .ok (.iload_n 1, 1) := by decide +kernel
theorem dX9_check_13 : decode cX9_check 13 = .ok (.aload_n 0, 1) := by decide +kernel
theorem dX9_check_14 : decode cX9_check 14 = .ok (.getfield 70, 3) := by decide +kernel
theorem dX9_check_17 : decode cX9_check 17 = .ok (.getfield 247, 3) := by decide +kernel
theorem dX9_check_20 : decode cX9_check 20 = .ok (.if_icmp .ge 7, 3) := by decide +kernel
theorem dX9_check_23 : decode cX9_check 23 = .ok (.iload_n 1, 1) := by decide +kernel
theorem dX9_check_24 : decode cX9_check 24 = .ok (.goto 4, 3) := by decide +kernel
theorem dX9_check_27 : decode cX9_check 27 = .ok (.iconst (-1), 1) := by decide +kernel
theorem dX9_check_28 : decode cX9_check 28 = .ok (.ireturn, 1) := by decide +kernel
theorem dX9_foretell_0 : decode cX9_foretell 0 = .ok (.iload_n 2, 1) := by decide +kernel
theorem dX9_foretell_1 : decode cX9_foretell 1 = .ok (.ifCond .lt 9, 3) := by decide +kernel
theorem dX9_foretell_4 : decode cX9_foretell 4 = .ok (.iload_n 2, 1) := by decide +kernel
theorem dX9_foretell_5 : decode cX9_foretell 5 = .ok (.bipush 9, 2) := by decide +kernel
theorem dX9_foretell_7 : decode cX9_foretell 7 = .ok (.if_icmp .le 13, 3) := by decide +kernel
theorem dX9_foretell_10 : decode cX9_foretell 10 = .ok (.new 109, 3) := by decide +kernel
theorem dX9_foretell_13 : decode cX9_foretell 13 = .ok (.dup, 1) := by decide +kernel
theorem dX9_foretell_14 : decode cX9_foretell 14 = .ok (.ldc 223, 2) := by decide +kernel
theorem dX9_foretell_16 : decode cX9_foretell 16 = .ok (.invokespecial 113, 3) := by decide +kernel
theorem dX9_foretell_19 : decode cX9_foretell 19 = .ok (.athrow, 1) := by decide +kernel
theorem dX9_foretell_20 : decode cX9_foretell 20 = .ok (.iload_n 1, 1) := by decide +kernel
theorem dX9_foretell_21 : decode cX9_foretell 21 = .ok (.ifCond .lt 14, 3) := by decide +kernel
theorem dX9_foretell_24 : decode cX9_foretell 24 = .ok (.iload_n 1, 1) := by decide +kernel
theorem dX9_foretell_25 : decode cX9_foretell 25 = .ok (.aload_n 0, 1) := by decide +kernel
theorem dX9_foretell_26 : decode cX9_foretell 26 = .ok (.getfield 70, 3) := by decide +kernel
theorem dX9_foretell_29 : decode cX9_foretell 29 = .ok (.getfield 247, 3) := by decide +kernel
theorem dX9_foretell_32 : decode cX9_foretell 32 = .ok (.if_icmp .le 14, 3) := by decide +kernel
theorem dX9_foretell_35 : decode cX9_foretell 35 = .ok (.new 88, 3) := by decide +kernel
theorem dX9_foretell_38 : decode cX9_foretell 38 = .ok (.dup, 1) := by decide +kernel
theorem dX9_foretell_39 : decode cX9_foretell 39 = .ok (.ldc_w 284, 3) := by decide +kernel
theorem dX9_foretell_42 : decode cX9_foretell 42 = .ok (.invokespecial 92, 3) := by decide +kernel
theorem dX9_foretell_45 : decode cX9_foretell 45 = .ok (.athrow, 1) := by decide +kernel
theorem dX9_foretell_46 : decode cX9_foretell 46 = .ok (.aload_n 0, 1) := by decide +kernel
theorem dX9_foretell_47 : decode cX9_foretell 47 = .ok (.iload_n 1, 1) := by decide +kernel
theorem dX9_foretell_48 : decode cX9_foretell 48 = .ok (.invokevirtual 278, 3) := by decide +kernel
theorem dX9_foretell_51 : decode cX9_foretell 51 = .ok (.iload_n 1, 1) := by decide +kernel
theorem dX9_foretell_52 : decode cX9_foretell 52 = .ok (.if_icmp .ge 14, 3) := by decide +kernel
theorem dX9_foretell_55 : decode cX9_foretell 55 = .ok (.new 162, 3) := by decide +kernel
theorem dX9_foretell_58 : decode cX9_foretell 58 = .ok (.dup, 1) := by decide +kernel
theorem dX9_foretell_59 : decode cX9_foretell 59 = .ok (.ldc_w 286, 3) := by decide +kernel
theorem dX9_foretell_62 : decode cX9_foretell 62 = .ok (.invokespecial 166, 3) := by decide +kernel
theorem dX9_foretell_65 : decode cX9_foretell 65 = .ok (.athrow, 1) := by decide +kernel
theorem dX9_foretell_66 : decode cX9_foretell 66 = .ok (.aload_n 0, 1) := by decide +kernel
theorem dX9_foretell_67 : decode cX9_foretell 67 = .ok (.getfield 64, 3) := by decide +kernel
theorem dX9_foretell_70 : decode cX9_foretell 70 = .ok (.iload_n 2, 1) := by decide +kernel
theorem dX9_foretell_71 : decode cX9_foretell 71 = .ok (.invokevirtual 225, 3) := by decide +kernel
theorem dX9_foretell_74 : decode cX9_foretell 74 = .ok (.ireturn, 1) := by decide +kernel
theorem dX9_run_0 : decode cX9_run 0 = .ok (.iload_n 1, 1) := by decide +kernel
theorem dX9_run_1 : decode cX9_run 1 = .ok (.iconst 1, 1) := by decide +kernel
theorem dX9_run_2 : decode cX9_run 2 = .ok (.if_icmp .lt 9, 3) := by decide +kernel
theorem dX9_run_5 : decode cX9_run 5 = .ok (.iload_n 1, 1) := by decide +kernel
theorem dX9_run_6 : decode cX9_run 6 = .ok (.bipush 40, 2) := by decide +kernel
theorem dX9_run_8 : decode cX9_run 8 = .ok (.if_icmp .le 14, 3) := by decide +kernel
theorem dX9_run_11 : decode cX9_run 11 = .ok (.new 88, 3) := by decide +kernel
theorem dX9_run_14 : decode cX9_run 14 = .ok (.dup, 1) := by decide +kernel
theorem dX9_run_15 : decode cX9_run 15 = .ok (.ldc_w 284, 3) := by decide +kernel
theorem dX9_run_18 : decode cX9_run 18 = .ok (.invokespecial 92, 3) := by decide +kernel
theorem dX9_run_21 : decode cX9_run 21 = .ok (.athrow, 1) := by decide +kernel
theorem dX9_run_22 : decode cX9_run 22 = .ok (.aload_n 0, 1) := by decide +kernel
theorem dX9_run_23 : decode cX9_run 23 = .ok (.getfield 44, 3) := by decide +kernel
theorem dX9_run_26 : decode cX9_run 26 = .ok (.aload_n 0, 1) := by decide +kernel
theorem dX9_run_27 : decode cX9_run 27 = .ok (.getfield 60, 3) := by decide +kernel
theorem dX9_run_30 : decode cX9_run 30 = .ok (.aload_n 0, 1) := by decide +kernel
theorem dX9_run_31 : decode cX9_run 31 = .ok (.getfield 70, 3) := by decide +kernel
theorem dX9_run_34 : decode cX9_run 34 = .ok (.iload_n 1, 1) := by decide +kernel
theorem dX9_run_35 : decode cX9_run 35 = .ok (.invokevirtual 288, 3) := by decide +kernel
theorem dX9_run_38 : decode cX9_run 38 = .ok (.istore_n 2, 1) := by decide +kernel
theorem dX9_run_39 : decode cX9_run 39 = .ok (.iconst 0, 1) := by decide +kernel
theorem dX9_run_40 : decode cX9_run 40 = .ok (.istore_n 3, 1) := by decide +kernel
theorem dX9_run_41 : decode cX9_run 41 = .ok (.iload_n 3, 1) := by decide +kernel
theorem dX9_run_42 : decode cX9_run 42 = .ok (.iload_n 2, 1) := by decide +kernel
theorem dX9_run_43 : decode cX9_run 43 = .ok (.if_icmp .ge 17, 3) := by decide +kernel
theorem dX9_run_46 : decode cX9_run 46 = .ok (.aload_n 0, 1) := by decide +kernel
theorem dX9_run_47 : decode cX9_run 47 = .ok (.getfield 70, 3) := by decide +kernel
theorem dX9_run_50 : decode cX9_run 50 = .ok (.iconst 0, 1) := by decide +kernel
theorem dX9_run_51 : decode cX9_run 51 = .ok (.invokevirtual 268, 3) := by decide +kernel
theorem dX9_run_54 : decode cX9_run 54 = .ok (.iinc 3 1, 3) := by decide +kernel
theorem dX9_run_57 : decode cX9_run 57 = .ok (.goto (-16), 3) := by decide +kernel
theorem dX9_run_60 : decode cX9_run 60 = .ok (.iload_n 2, 1) := by decide +kernel
theorem dX9_run_61 : decode cX9_run 61 = .ok (.ireturn, 1) := by decide +kernel
theorem dX9_make_0 : decode cX9_make 0 = .ok (.iload_n 1, 1) := by decide +kernel
theorem dX9_make_1 : decode cX9_make 1 = .ok (.iconst 1, 1) := by decide +kernel
theorem dX9_make_2 : decode cX9_make 2 = .ok (.if_icmp .lt 10, 3) := by decide +kernel
theorem dX9_make_5 : decode cX9_make 5 = .ok (.iload_n 1, 1) := by decide +kernel
theorem dX9_make_6 : decode cX9_make 6 = .ok (.sipush 2880, 3) := by decide +kernel
theorem dX9_make_9 : decode cX9_make 9 = .ok (.if_icmp .le 14, 3) := by decide +kernel
theorem dX9_make_12 : decode cX9_make 12 = .ok (.new 88, 3) := by decide +kernel
theorem dX9_make_15 : decode cX9_make 15 = .ok (.dup, 1) := by decide +kernel
theorem dX9_make_16 : decode cX9_make 16 = .ok (.ldc_w 292, 3) := by decide +kernel
theorem dX9_make_19 : decode cX9_make 19 = .ok (.invokespecial 92, 3) := by decide +kernel
theorem dX9_make_22 : decode cX9_make 22 = .ok (.athrow, 1) := by decide +kernel
theorem dX9_make_23 : decode cX9_make 23 = .ok (.aload_n 0, 1) := by decide +kernel
theorem dX9_make_24 : decode cX9_make 24 = .ok (.aload_n 0, 1) := by decide +kernel
theorem dX9_make_25 : decode cX9_make 25 = .ok (.getfield 70, 3) := by decide +kernel
theorem dX9_make_28 : decode cX9_make 28 = .ok (.getfield 247, 3) := by decide +kernel
theorem dX9_make_31 : decode cX9_make 31 = .ok (.invokevirtual 278, 3) := by decide +kernel
theorem dX9_make_34 : decode cX9_make 34 = .ok (.aload_n 0, 1) := by decide +kernel
theorem dX9_make_35 : decode cX9_make 35 = .ok (.getfield 70, 3) := by decide +kernel
theorem dX9_make_38 : decode cX9_make 38 = .ok (.getfield 247, 3) := by decide +kernel
theorem dX9_make_41 : decode cX9_make 41 = .ok (.if_icmp .ge 5, 3) := by decide +kernel
theorem dX9_make_44 : decode cX9_make 44 = .ok (.iconst 0, 1) := by decide +kernel
theorem dX9_make_45 : decode cX9_make 45 = .ok (.ireturn, 1) := by decide +kernel
theorem dX9_make_46 : decode cX9_make 46 = .ok (.aload_n 0, 1) := by decide +kernel
theorem dX9_make_47 : decode cX9_make 47 = .ok (.getfield 53, 3) := by decide +kernel
theorem dX9_make_50 : decode cX9_make 50 = .ok (.aload_n 0, 1) := by decide +kernel
theorem dX9_make_51 : decode cX9_make 51 = .ok (.getfield 70, 3) := by decide +kernel
theorem dX9_make_54 : decode cX9_make 54 = .ok (.aload_n 0, 1) := by decide +kernel
theorem dX9_make_55 : decode cX9_make 55 = .ok (.getfield 64, 3) := by decide +kernel
theorem dX9_make_58 : decode cX9_make 58 = .ok (.iload_n 1, 1) := by decide +kernel
theorem dX9_make_59 : decode cX9_make 59 = .ok (.invokevirtual 294, 3) := by decide +kernel
theorem dX9_make_62 : decode cX9_make 62 = .ok (.ireturn, 1) := by decide +kernel
theorem dX9_nearest_0 : decode cX9_nearest 0 = .ok (.aload_n 0, 1) := by decide +kernel
theorem dX9_nearest_1 : decode cX9_nearest 1 = .ok (.getfield 28, 3) := by decide +kernel
theorem dX9_nearest_4 : decode cX9_nearest 4 = .ok (.iload_n 1, 1) := by decide +kernel
theorem dX9_nearest_5 : decode cX9_nearest 5 = .ok (.invokevirtual 171, 3) := by decide +kernel
theorem dX9_nearest_8 : decode cX9_nearest 8 = .ok (.ifCond .ne 14, 3) := by decide +kernel
theorem dX9_nearest_11 : decode cX9_nearest 11 = .ok (.new 109, 3) := by decide +kernel
theorem dX9_nearest_14 : decode cX9_nearest 14 = .ok (.dup, 1) := by decide +kernel
theorem dX9_nearest_15 : decode cX9_nearest 15 = .ok (.ldc_w 298, 3) := by decide +kernel
theorem dX9_nearest_18 : decode cX9_nearest 18 = .ok (.invokespecial 113, 3) := by decide +kernel
theorem dX9_nearest_21 : decode cX9_nearest 21 = .ok (.athrow, 1) := by decide +kernel
theorem dX9_nearest_22 : decode cX9_nearest 22 = .ok (.aload_n 0, 1) := by decide +kernel
theorem dX9_nearest_23 : decode cX9_nearest 23 = .ok (.getfield 21, 3) := by decide +kernel
theorem dX9_nearest_26 : decode cX9_nearest 26 = .ok (.aload_n 0, 1) := by decide +kernel
theorem dX9_nearest_27 : decode cX9_nearest 27 = .ok (.getfield 60, 3) := by decide +kernel
theorem dX9_nearest_30 : decode cX9_nearest 30 = .ok (.getfield 300, 3) := by decide +kernel
theorem dX9_nearest_33 : decode cX9_nearest 33 = .ok (.aload_n 0, 1) := by decide +kernel
theorem dX9_nearest_34 : decode cX9_nearest 34 = .ok (.getfield 60, 3) := by decide +kernel
theorem dX9_nearest_37 : decode cX9_nearest 37 = .ok (.getfield 303, 3) := by decide +kernel
theorem dX9_nearest_40 : decode cX9_nearest 40 = .ok (.invokestatic 134, 3) := by decide +kernel
theorem dX9_nearest_43 : decode cX9_nearest 43 = .ok (.invokevirtual 306, 3) := by decide +kernel
theorem dX9_nearest_46 : decode cX9_nearest 46 = .ok (.aload_n 0, 1) := by decide +kernel
theorem dX9_nearest_47 : decode cX9_nearest 47 = .ok (.getfield 53, 3) := by decide +kernel
theorem dX9_nearest_50 : decode cX9_nearest 50 = .ok (.aload_n 0, 1) := by decide +kernel
theorem dX9_nearest_51 : decode cX9_nearest 51 = .ok (.getfield 60, 3) := by decide +kernel
theorem dX9_nearest_54 : decode cX9_nearest 54 = .ok (.iload_n 1, 1) := by decide +kernel
theorem dX9_nearest_55 : decode cX9_nearest 55 = .ok (.invokevirtual 309, 3) := by decide +kernel
theorem dX9_nearest_58 : decode cX9_nearest 58 = .ok (.istore_n 2, 1) := by decide +kernel
theorem dX9_nearest_59 : decode cX9_nearest 59 = .ok (.iload_n 2, 1) := by decide +kernel
theorem dX9_nearest_60 : decode cX9_nearest 60 = .ok (.iconst (-1), 1) := by decide +kernel
theorem dX9_nearest_61 : decode cX9_nearest 61 = .ok (.if_icmp .ne 7, 3) := by decide +kernel
theorem dX9_nearest_64 : decode cX9_nearest 64 = .ok (.iconst (-1), 1) := by decide +kernel
theorem dX9_nearest_65 : decode cX9_nearest 65 = .ok (.goto 15, 3) := by decide +kernel
theorem dX9_nearest_68 : decode cX9_nearest 68 = .ok (.bipush 100, 2) := by decide +kernel
theorem dX9_nearest_70 : decode cX9_nearest 70 = .ok (.iload_n 2, 1) := by decide +kernel
theorem dX9_nearest_71 : decode cX9_nearest 71 = .ok (.bipush 24, 2) := by decide +kernel
theorem dX9_nearest_73 : decode cX9_nearest 73 = .ok (.irem, 1) := by decide +kernel
theorem dX9_nearest_74 : decode cX9_nearest 74 = .ok (.imul, 1) := by decide +kernel
theorem dX9_nearest_75 : decode cX9_nearest 75 = .ok (.iload_n 2, 1) := by decide +kernel
theorem dX9_nearest_76 : decode cX9_nearest 76 = .ok (.bipush 24, 2) := by decide +kernel
theorem dX9_nearest_78 : decode cX9_nearest 78 = .ok (.idiv, 1) := by decide +kernel
theorem dX9_nearest_79 : decode cX9_nearest 79 = .ok (.iadd, 1) := by decide +kernel
theorem dX9_nearest_80 : decode cX9_nearest 80 = .ok (.ireturn, 1) := by decide +kernel
theorem dX9_sent_0 : decode cX9_sent 0 = .ok (.aload_n 0, 1) := by decide +kernel
theorem dX9_sent_1 : decode cX9_sent 1 = .ok (.getfield 60, 3) := by decide +kernel
theorem dX9_sent_4 : decode cX9_sent 4 = .ok (.getfield 335, 3) := by decide +kernel
theorem dX9_sent_7 : decode cX9_sent 7 = .ok (.ifCond .ne 7, 3) := by decide +kernel
theorem dX9_sent_10 : decode cX9_sent 10 = .ok (.dconst 1, 1) := by decide +kernel
theorem dX9_sent_11 : decode cX9_sent 11 = .ok (.goto 20, 3) := by decide +kernel
theorem dX9_sent_14 : decode cX9_sent 14 = .ok (.aload_n 0, 1) := by decide +kernel
theorem dX9_sent_15 : decode cX9_sent 15 = .ok (.getfield 60, 3) := by decide +kernel
theorem dX9_sent_18 : decode cX9_sent 18 = .ok (.getfield 338, 3) := by decide +kernel
theorem dX9_sent_21 : decode cX9_sent 21 = .ok (.i2d, 1) := by decide +kernel
theorem dX9_sent_22 : decode cX9_sent 22 = .ok (.aload_n 0, 1) := by decide +kernel
theorem dX9_sent_23 : decode cX9_sent 23 = .ok (.getfield 60, 3) := by decide +kernel
theorem dX9_sent_26 : decode cX9_sent 26 = .ok (.getfield 335, 3) := by decide +kernel
theorem dX9_sent_29 : decode cX9_sent 29 = .ok (.i2d, 1) := by decide +kernel
theorem dX9_sent_30 : decode cX9_sent 30 = .ok (.ddiv, 1) := by decide +kernel
theorem dX9_sent_31 : decode cX9_sent 31 = .ok (.dreturn, 1) := by decide +kernel
theorem dX9_numberOf_0 : decode cX9_numberOf 0 = .ok (.iload_n 1, 1) := by decide +kernel
theorem dX9_numberOf_1 : decode cX9_numberOf 1 = .ok (.tableswitch 51 0 2 #[27, 35, 43], 27) := by decide +kernel
theorem dX9_numberOf_28 : decode cX9_numberOf 28 = .ok (.aload_n 0, 1) := by decide +kernel
theorem dX9_numberOf_29 : decode cX9_numberOf 29 = .ok (.getfield 28, 3) := by decide +kernel
theorem dX9_numberOf_32 : decode cX9_numberOf 32 = .ok (.getfield 235, 3) := by decide +kernel
theorem dX9_numberOf_35 : decode cX9_numberOf 35 = .ok (.ireturn, 1) := by decide +kernel
theorem dX9_numberOf_36 : decode cX9_numberOf 36 = .ok (.aload_n 0, 1) := by decide +kernel
theorem dX9_numberOf_37 : decode cX9_numberOf 37 = .ok (.getfield 35, 3) := by decide +kernel
theorem dX9_numberOf_40 : decode cX9_numberOf 40 = .ok (.getfield 351, 3) := by decide +kernel
theorem dX9_numberOf_43 : decode cX9_numberOf 43 = .ok (.ireturn, 1) := by decide +kernel
theorem dX9_numberOf_44 : decode cX9_numberOf 44 = .ok (.aload_n 0, 1) := by decide +kernel
theorem dX9_numberOf_45 : decode cX9_numberOf 45 = .ok (.getfield 70, 3) := by decide +kernel
theorem dX9_numberOf_48 : decode cX9_numberOf 48 = .ok (.getfield 247, 3) := by decide +kernel
theorem dX9_numberOf_51 : decode cX9_numberOf 51 = .ok (.ireturn, 1) := by decide +kernel
theorem dX9_numberOf_52 : decode cX9_numberOf 52 = .ok (.aload_n 0, 1) := by decide +kernel
theorem dX9_numberOf_53 : decode cX9_numberOf 53 = .ok (.getfield 313, 3) := by decide +kernel
theorem dX9_numberOf_56 : decode cX9_numberOf 56 = .ok (.ireturn, 1) := by decide +kernel
theorem dX9_doOnCopy_0 : decode cX9_doOnCopy 0 = .ok (.aload_n 0, 1) := by decide +kernel
theorem dX9_doOnCopy_1 : decode cX9_doOnCopy 1 = .ok (.getfield 64, 3) := by decide +kernel
theorem dX9_doOnCopy_4 : decode cX9_doOnCopy 4 = .ok (.aload_n 0, 1) := by decide +kernel
theorem dX9_doOnCopy_5 : decode cX9_doOnCopy 5 = .ok (.getfield 60, 3) := by decide +kernel
theorem dX9_doOnCopy_8 : decode cX9_doOnCopy 8 = .ok (.invokevirtual 322, 3) := by decide +kernel
theorem dX9_doOnCopy_11 : decode cX9_doOnCopy 11 = .ok (.aload_n 0, 1) := by decide +kernel
theorem dX9_doOnCopy_12 : decode cX9_doOnCopy 12 = .ok (.getfield 44, 3) := by decide +kernel
theorem dX9_doOnCopy_15 : decode cX9_doOnCopy 15 = .ok (.aload_n 0, 1) := by decide +kernel
theorem dX9_doOnCopy_16 : decode cX9_doOnCopy 16 = .ok (.getfield 64, 3) := by decide +kernel
theorem dX9_doOnCopy_19 : decode cX9_doOnCopy 19 = .ok (.aload_n 0, 1) := by decide +kernel
theorem dX9_doOnCopy_20 : decode cX9_doOnCopy 20 = .ok (.getfield 70, 3) := by decide +kernel
theorem dX9_doOnCopy_23 : decode cX9_doOnCopy 23 = .ok (.iload_n 1, 1) := by decide +kernel
theorem dX9_doOnCopy_24 : decode cX9_doOnCopy 24 = .ok (.invokevirtual 288, 3) := by decide +kernel
theorem dX9_doOnCopy_27 : decode cX9_doOnCopy 27 = .ok (.ireturn, 1) := by decide +kernel
theorem dX10_init_0 : decode cX10_init 0 = .ok (.aload_n 0, 1) := by decide +kernel
theorem dX10_init_1 : decode cX10_init 1 = .ok (.invokespecial 1, 3) := by decide +kernel
theorem dX10_init_4 : decode cX10_init 4 = .ok (.aload_n 0, 1) := by decide +kernel
theorem dX10_init_5 : decode cX10_init 5 = .ok (.bipush 9, 2) := by decide +kernel
theorem dX10_init_7 : decode cX10_init 7 = .ok (.newarray .int, 2) := by decide +kernel
theorem dX10_init_9 : decode cX10_init 9 = .ok (.dup, 1) := by decide +kernel
theorem dX10_init_10 : decode cX10_init 10 = .ok (.iconst 0, 1) := by decide +kernel
theorem dX10_init_11 : decode cX10_init 11 = .ok (.iconst 0, 1) := by decide +kernel
theorem dX10_init_12 : decode cX10_init 12 = .ok (.iastore, 1) := by decide +kernel
theorem dX10_init_13 : decode cX10_init 13 = .ok (.dup, 1) := by decide +kernel
theorem dX10_init_14 : decode cX10_init 14 = .ok (.iconst 1, 1) := by decide +kernel
theorem dX10_init_15 : decode cX10_init 15 = .ok (.iconst 0, 1) := by decide +kernel
theorem dX10_init_16 : decode cX10_init 16 = .ok (.iastore, 1) := by decide +kernel
theorem dX10_init_17 : decode cX10_init 17 = .ok (.dup, 1) := by decide +kernel
theorem dX10_init_18 : decode cX10_init 18 = .ok (.iconst 2, 1) := by decide +kernel
theorem dX10_init_19 : decode cX10_init 19 = .ok (.iconst 0, 1) := by decide +kernel
theorem dX10_init_20 : decode cX10_init 20 = .ok (.iastore, 1) := by decide +kernel
theorem dX10_init_21 : decode cX10_init 21 = .ok (.dup, 1) := by decide +kernel
theorem dX10_init_22 : decode cX10_init 22 = .ok (.iconst 3, 1) := by decide +kernel
theorem dX10_init_23 : decode cX10_init 23 = .ok (.sipush 3000, 3) := by decide +kernel
theorem dX10_init_26 : decode cX10_init 26 = .ok (.iastore, 1) := by decide +kernel
theorem dX10_init_27 : decode cX10_init 27 = .ok (.dup, 1) := by decide +kernel
theorem dX10_init_28 : decode cX10_init 28 = .ok (.iconst 4, 1) := by decide +kernel
theorem dX10_init_29 : decode cX10_init 29 = .ok (.bipush (-20), 2) := by decide +kernel
theorem dX10_init_31 : decode cX10_init 31 = .ok (.iastore, 1) := by decide +kernel
theorem dX10_init_32 : decode cX10_init 32 = .ok (.dup, 1) := by decide +kernel
theorem dX10_init_33 : decode cX10_init 33 = .ok (.iconst 5, 1) := by decide +kernel
theorem dX10_init_34 : decode cX10_init 34 = .ok (.iconst 0, 1) := by decide +kernel
theorem dX10_init_35 : decode cX10_init 35 = .ok (.iastore, 1) := by decide +kernel
theorem dX10_init_36 : decode cX10_init 36 = .ok (.dup, 1) := by decide +kernel
theorem dX10_init_37 : decode cX10_init 37 = .ok (.bipush 6, 2) := by decide +kernel
theorem dX10_init_39 : decode cX10_init 39 = .ok (.bipush 100, 2) := by decide +kernel
theorem dX10_init_41 : decode cX10_init 41 = .ok (.iastore, 1) := by decide +kernel
theorem dX10_init_42 : decode cX10_init 42 = .ok (.dup, 1) := by decide +kernel
theorem dX10_init_43 : decode cX10_init 43 = .ok (.bipush 7, 2) := by decide +kernel
theorem dX10_init_45 : decode cX10_init 45 = .ok (.iconst 0, 1) := by decide +kernel
theorem dX10_init_46 : decode cX10_init 46 = .ok (.iastore, 1) := by decide +kernel
theorem dX10_init_47 : decode cX10_init 47 = .ok (.dup, 1) := by decide +kernel
theorem dX10_init_48 : decode cX10_init 48 = .ok (.bipush 8, 2) := by decide +kernel
theorem dX10_init_50 : decode cX10_init 50 = .ok (.sipush 4000, 3) := by decide +kernel
theorem dX10_init_53 : decode cX10_init 53 = .ok (.iastore, 1) := by decide +kernel
theorem dX10_init_54 : decode cX10_init 54 = .ok (.putfield 7, 3) := by decide +kernel
theorem dX10_init_57 : decode cX10_init 57 = .ok (.aload_n 0, 1) := by decide +kernel
theorem dX10_init_58 : decode cX10_init 58 = .ok (.iconst 0, 1) := by decide +kernel
theorem dX10_init_59 : decode cX10_init 59 = .ok (.anewarray 13, 3) := by decide +kernel
theorem dX10_init_62 : decode cX10_init 62 = .ok (.putfield 14, 3) := by decide +kernel
theorem dX10_init_65 : decode cX10_init 65 = .ok (.aload_n 0, 1) := by decide +kernel
theorem dX10_init_66 : decode cX10_init 66 = .ok (.bipush 12, 2) := by decide +kernel
theorem dX10_init_68 : decode cX10_init 68 = .ok (.newarray .int, 2) := by decide +kernel
theorem dX10_init_70 : decode cX10_init 70 = .ok (.putfield 18, 3) := by decide +kernel
theorem dX10_init_73 : decode cX10_init 73 = .ok (.aload_n 0, 1) := by decide +kernel
theorem dX10_init_74 : decode cX10_init 74 = .ok (.bipush 12, 2) := by decide +kernel
theorem dX10_init_76 : decode cX10_init 76 = .ok (.newarray .boolean, 2) := by decide +kernel
theorem dX10_init_78 : decode cX10_init 78 = .ok (.putfield 21, 3) := by decide +kernel
theorem dX10_init_81 : decode cX10_init 81 = .ok (.aload_n 0, 1) := by decide +kernel
theorem dX10_init_82 : decode cX10_init 82 = .ok (.sipush 800, 3) := by decide +kernel
theorem dX10_init_85 : decode cX10_init 85 = .ok (.putfield 25, 3) := by decide +kernel
theorem dX10_init_88 : decode cX10_init 88 = .ok (.aload_n 0, 1) := by decide +kernel
theorem dX10_init_89 : decode cX10_init 89 = .ok (.sipush 1440, 3) := by decide +kernel
theorem dX10_init_92 : decode cX10_init 92 = .ok (.newarray .int, 2) := by decide +kernel
theorem dX10_init_94 : decode cX10_init 94 = .ok (.putfield 29, 3) := by decide +kernel
theorem dX10_init_97 : decode cX10_init 97 = .ok (.aload_n 0, 1) := by decide +kernel
theorem dX10_init_98 : decode cX10_init 98 = .ok (.bipush 12, 2) := by decide +kernel
theorem dX10_init_100 : decode cX10_init 100 = .ok (.anewarray 13, 3) := by decide +kernel
theorem dX10_init_103 : decode cX10_init 103 = .ok (.putfield 32, 3) := by decide +kernel
theorem dX10_init_106 : decode cX10_init 106 = .ok (.return_, 1) := by decide +kernel
theorem dX10_light_0 : decode cX10_light 0 = .ok (.aload_n 0, 1) := by decide +kernel
theorem dX10_light_1 : decode cX10_light 1 = .ok (.getfield 7, 3) := by decide +kernel
theorem dX10_light_4 : decode cX10_light 4 = .ok (.iconst 0, 1) := by decide +kernel
theorem dX10_light_5 : decode cX10_light 5 = .ok (.iaload, 1) := by decide +kernel
theorem dX10_light_6 : decode cX10_light 6 = .ok (.sipush 1440, 3) := by decide +kernel
theorem dX10_light_9 : decode cX10_light 9 = .ok (.irem, 1) := by decide +kernel
theorem dX10_light_10 : decode cX10_light 10 = .ok (.istore_n 1, 1) := by decide +kernel
theorem dX10_light_11 : decode cX10_light 11 = .ok (.iload_n 1, 1) := by decide +kernel
theorem dX10_light_12 : decode cX10_light 12 = .ok (.sipush 360, 3) := by decide +kernel
theorem dX10_light_15 : decode cX10_light 15 = .ok (.if_icmp .lt 10, 3) := by decide +kernel
theorem dX10_light_18 : decode cX10_light 18 = .ok (.iload_n 1, 1) := by decide +kernel
theorem dX10_light_19 : decode cX10_light 19 = .ok (.sipush 1080, 3) := by decide +kernel
theorem dX10_light_22 : decode cX10_light 22 = .ok (.if_icmp .lt 7, 3) := by decide +kernel
theorem dX10_light_25 : decode cX10_light 25 = .ok (.iconst 0, 1) := by decide +kernel
theorem dX10_light_26 : decode cX10_light 26 = .ok (.goto 23, 3) := by decide +kernel
theorem dX10_light_29 : decode cX10_light 29 = .ok (.iload_n 1, 1) := by decide +kernel
theorem dX10_light_30 : decode cX10_light 30 = .ok (.sipush 720, 3) := by decide +kernel
theorem dX10_light_33 : decode cX10_light 33 = .ok (.if_icmp .gt 11, 3) := by decide +kernel
theorem dX10_light_36 : decode cX10_light 36 = .ok (.iload_n 1, 1) := by decide +kernel
theorem dX10_light_37 : decode cX10_light 37 = .ok (.sipush 360, 3) := by decide +kernel
theorem dX10_light_40 : decode cX10_light 40 = .ok (.isub, 1) := by decide +kernel
theorem dX10_light_41 : decode cX10_light 41 = .ok (.goto 8, 3) := by decide +kernel
theorem dX10_light_44 : decode cX10_light 44 = .ok (.sipush 1080, 3) := by decide +kernel
theorem dX10_light_47 : decode cX10_light 47 = .ok (.iload_n 1, 1) := by decide +kernel
theorem dX10_light_48 : decode cX10_light 48 = .ok (.isub, 1) := by decide +kernel
theorem dX10_light_49 : decode cX10_light 49 = .ok (.ireturn, 1) := by decide +kernel
theorem dX10_minute_0 : decode cX10_minute 0 = .ok (.aload_n 0, 1) := by decide +kernel
theorem dX10_minute_1 : decode cX10_minute 1 = .ok (.getfield 7, 3) := by decide +kernel
theorem dX10_minute_4 : decode cX10_minute 4 = .ok (.iconst 0, 1) := by decide +kernel
theorem dX10_minute_5 : decode cX10_minute 5 = .ok (.iaload, 1) := by decide +kernel
theorem dX10_minute_6 : decode cX10_minute 6 = .ok (.sipush 14400, 3) := by decide +kernel
theorem dX10_minute_9 : decode cX10_minute 9 = .ok (.if_icmp .lt 6, 3) := by decide +kernel
theorem dX10_minute_12 : decode cX10_minute 12 = .ok (.bipush 7, 2) := by decide +kernel
theorem dX10_minute_14 : decode cX10_minute 14 = .ok (.ireturn, 1) := by decide +kernel
theorem dX10_minute_15 : decode cX10_minute 15 = .ok (.aload_n 0, 1) := by decide +kernel
theorem dX10_minute_16 : decode cX10_minute 16 = .ok (.invokevirtual 48, 3) := by decide +kernel
theorem dX10_minute_19 : decode cX10_minute 19 = .ok (.aload_n 0, 1) := by decide +kernel
theorem dX10_minute_20 : decode cX10_minute 20 = .ok (.getfield 7, 3) := by decide +kernel
theorem dX10_minute_23 : decode cX10_minute 23 = .ok (.bipush 6, 2) := by decide +kernel
theorem dX10_minute_25 : decode cX10_minute 25 = .ok (.iaload, 1) := by decide +kernel
theorem dX10_minute_26 : decode cX10_minute 26 = .ok (.imul, 1) := by decide +kernel
theorem dX10_minute_27 : decode cX10_minute 27 = .ok (.sipush 3600, 3) := by decide +kernel
theorem dX10_minute_30 : decode cX10_minute 30 = .ok (.idiv, 1) := by decide +kernel
theorem dX10_minute_31 : decode cX10_minute 31 = .ok (.istore_n 3, 1) := by decide +kernel
theorem dX10_minute_32 : decode cX10_minute 32 = .ok (.aload_n 0, 1) := by decide +kernel
theorem dX10_minute_33 : decode cX10_minute 33 = .ok (.getfield 7, 3) := by decide +kernel
theorem dX10_minute_36 : decode cX10_minute 36 = .ok (.iconst 3, 1) := by decide +kernel
theorem dX10_minute_37 : decode cX10_minute 37 = .ok (.iaload, 1) := by decide +kernel
theorem dX10_minute_38 : decode cX10_minute 38 = .ok (.iload_n 3, 1) := by decide +kernel
theorem dX10_minute_39 : decode cX10_minute 39 = .ok (.iadd, 1) := by decide +kernel
theorem dX10_minute_40 : decode cX10_minute 40 = .ok (.iload_n 2, 1) := by decide +kernel
theorem dX10_minute_41 : decode cX10_minute 41 = .ok (.ifCond .eq 7, 3) := by decide +kernel
theorem dX10_minute_44 : decode cX10_minute 44 = .ok (.iconst 2, 1) := by decide +kernel
theorem dX10_minute_45 : decode cX10_minute 45 = .ok (.goto 4, 3) := by decide +kernel
theorem dX10_minute_48 : decode cX10_minute 48 = .ok (.iconst 1, 1) := by decide +kernel
theorem dX10_minute_49 : decode cX10_minute 49 = .ok (.isub, 1) := by decide +kernel
theorem dX10_minute_50 : decode cX10_minute 50 = .ok (.aload_n 0, 1) := by decide +kernel
theorem dX10_minute_51 : decode cX10_minute 51 = .ok (.getfield 7, 3) := by decide +kernel
theorem dX10_minute_54 : decode cX10_minute 54 = .ok (.iconst 5, 1) := by decide +kernel
theorem dX10_minute_55 : decode cX10_minute 55 = .ok (.iaload, 1) := by decide +kernel
theorem dX10_minute_56 : decode cX10_minute 56 = .ok (.iconst 1, 1) := by decide +kernel
theorem dX10_minute_57 : decode cX10_minute 57 = .ok (.if_icmp .ne 7, 3) := by decide +kernel
theorem dX10_minute_60 : decode cX10_minute 60 = .ok (.iconst 3, 1) := by decide +kernel
theorem dX10_minute_61 : decode cX10_minute 61 = .ok (.goto 4, 3) := by decide +kernel
theorem dX10_minute_64 : decode cX10_minute 64 = .ok (.iconst 0, 1) := by decide +kernel
theorem dX10_minute_65 : decode cX10_minute 65 = .ok (.isub, 1) := by decide +kernel
theorem dX10_minute_66 : decode cX10_minute 66 = .ok (.iload_n 1, 1) := by decide +kernel
theorem dX10_minute_67 : decode cX10_minute 67 = .ok (.isub, 1) := by decide +kernel
theorem dX10_minute_68 : decode cX10_minute 68 = .ok (.istore 4, 2) := by decide +kernel
theorem dX10_minute_70 : decode cX10_minute 70 = .ok (.iload 4, 2) := by decide +kernel
theorem dX10_minute_72 : decode cX10_minute 72 = .ok (.ifCond .ge 5, 3) := by decide +kernel
theorem dX10_minute_75 : decode cX10_minute 75 = .ok (.iconst 2, 1) := by decide +kernel
theorem dX10_minute_76 : decode cX10_minute 76 = .ok (.ireturn, 1) := by decide +kernel
theorem dX10_minute_77 : decode cX10_minute 77 = .ok (.aload_n 0, 1) := by decide +kernel
theorem dX10_minute_78 : decode cX10_minute 78 = .ok (.getfield 7, 3) := by decide +kernel
theorem dX10_minute_81 : decode cX10_minute 81 = .ok (.iconst 3, 1) := by decide +kernel
theorem dX10_minute_82 : decode cX10_minute 82 = .ok (.iload 4, 2) := by decide +kernel
theorem dX10_minute_84 : decode cX10_minute 84 = .ok (.aload_n 0, 1) := by decide +kernel
theorem dX10_minute_85 : decode cX10_minute 85 = .ok (.getfield 7, 3) := by decide +kernel
theorem dX10_minute_88 : decode cX10_minute 88 = .ok (.bipush 8, 2) := by decide +kernel
theorem dX10_minute_90 : decode cX10_minute 90 = .ok (.iaload, 1) := by decide +kernel
theorem dX10_minute_91 : decode cX10_minute 91 = .ok (.if_icmp .le 13, 3) := by decide +kernel
theorem dX10_minute_94 : decode cX10_minute 94 = .ok (.aload_n 0, 1) := by decide +kernel
theorem dX10_minute_95 : decode cX10_minute 95 = .ok (.getfield 7, 3) := by decide +kernel
theorem dX10_minute_98 : decode cX10_minute 98 = .ok (.bipush 8, 2) := by decide +kernel
theorem dX10_minute_100 : decode cX10_minute 100 = .ok (.iaload, 1) := by decide +kernel
theorem dX10_minute_101 : decode cX10_minute 101 = .ok (.goto 5, 3) := by decide +kernel
theorem dX10_minute_104 : decode cX10_minute 104 = .ok (.iload 4, 2) := by decide +kernel
theorem dX10_minute_106 : decode cX10_minute 106 = .ok (.iastore, 1) := by decide +kernel
theorem dX10_minute_107 : decode cX10_minute 107 = .ok (.aload_n 0, 1) := by decide +kernel
theorem dX10_minute_108 : decode cX10_minute 108 = .ok (.invokevirtual 48, 3) := by decide +kernel
theorem dX10_minute_111 : decode cX10_minute 111 = .ok (.bipush 6, 2) := by decide +kernel
theorem dX10_minute_113 : decode cX10_minute 113 = .ok (.idiv, 1) := by decide +kernel
theorem dX10_minute_114 : decode cX10_minute 114 = .ok (.bipush 70, 2) := by decide +kernel
theorem dX10_minute_116 : decode cX10_minute 116 = .ok (.isub, 1) := by decide +kernel
theorem dX10_minute_117 : decode cX10_minute 117 = .ok (.istore 5, 2) := by decide +kernel
theorem dX10_minute_119 : decode cX10_minute 119 = .ok (.aload_n 0, 1) := by decide +kernel
theorem dX10_minute_120 : decode cX10_minute 120 = .ok (.getfield 7, 3) := by decide +kernel
theorem dX10_minute_123 : decode cX10_minute 123 = .ok (.iconst 4, 1) := by decide +kernel
theorem dX10_minute_124 : decode cX10_minute 124 = .ok (.aload_n 0, 1) := by decide +kernel
theorem dX10_minute_125 : decode cX10_minute 125 = .ok (.getfield 7, 3) := by decide +kernel
theorem dX10_minute_128 : decode cX10_minute 128 = .ok (.iconst 4, 1) := by decide +kernel
theorem dX10_minute_129 : decode cX10_minute 129 = .ok (.iaload, 1) := by decide +kernel
theorem dX10_minute_130 : decode cX10_minute 130 = .ok (.iload 5, 2) := by decide +kernel
theorem dX10_minute_132 : decode cX10_minute 132 = .ok (.aload_n 0, 1) := by decide +kernel
theorem dX10_minute_133 : decode cX10_minute 133 = .ok (.getfield 7, 3) := by decide +kernel
theorem dX10_minute_136 : decode cX10_minute 136 = .ok (.iconst 4, 1) := by decide +kernel
theorem dX10_minute_137 : decode cX10_minute 137 = .ok (.iaload, 1) := by decide +kernel
theorem dX10_minute_138 : decode cX10_minute 138 = .ok (.isub, 1) := by decide +kernel
theorem dX10_minute_139 : decode cX10_minute 139 = .ok (.bipush 20, 2) := by decide +kernel
theorem dX10_minute_141 : decode cX10_minute 141 = .ok (.idiv, 1) := by decide +kernel
theorem dX10_minute_142 : decode cX10_minute 142 = .ok (.iadd, 1) := by decide +kernel
theorem dX10_minute_143 : decode cX10_minute 143 = .ok (.aload_n 0, 1) := by decide +kernel
theorem dX10_minute_144 : decode cX10_minute 144 = .ok (.getfield 7, 3) := by decide +kernel
theorem dX10_minute_147 : decode cX10_minute 147 = .ok (.iconst 5, 1) := by decide +kernel
theorem dX10_minute_148 : decode cX10_minute 148 = .ok (.iaload, 1) := by decide +kernel
theorem dX10_minute_149 : decode cX10_minute 149 = .ok (.iconst 1, 1) := by decide +kernel
theorem dX10_minute_150 : decode cX10_minute 150 = .ok (.if_icmp .ne 7, 3) := by decide +kernel
theorem dX10_minute_153 : decode cX10_minute 153 = .ok (.iconst 2, 1) := by decide +kernel
theorem dX10_minute_154 : decode cX10_minute 154 = .ok (.goto 4, 3) := by decide +kernel
theorem dX10_minute_157 : decode cX10_minute 157 = .ok (.iconst 0, 1) := by decide +kernel
theorem dX10_minute_158 : decode cX10_minute 158 = .ok (.iadd, 1) := by decide +kernel
theorem dX10_minute_159 : decode cX10_minute 159 = .ok (.iload_n 2, 1) := by decide +kernel
theorem dX10_minute_160 : decode cX10_minute 160 = .ok (.ifCond .eq 7, 3) := by decide +kernel
theorem dX10_minute_163 : decode cX10_minute 163 = .ok (.iconst 1, 1) := by decide +kernel
theorem dX10_minute_164 : decode cX10_minute 164 = .ok (.goto 4, 3) := by decide +kernel
theorem dX10_minute_167 : decode cX10_minute 167 = .ok (.iconst 0, 1) := by decide +kernel
theorem dX10_minute_168 : decode cX10_minute 168 = .ok (.iadd, 1) := by decide +kernel
theorem dX10_minute_169 : decode cX10_minute 169 = .ok (.iastore, 1) := by decide +kernel
theorem dX10_minute_170 : decode cX10_minute 170 = .ok (.aload_n 0, 1) := by decide +kernel
theorem dX10_minute_171 : decode cX10_minute 171 = .ok (.getfield 7, 3) := by decide +kernel
theorem dX10_minute_174 : decode cX10_minute 174 = .ok (.iconst 0, 1) := by decide +kernel
theorem dX10_minute_175 : decode cX10_minute 175 = .ok (.dup2, 1) := by decide +kernel
theorem dX10_minute_176 : decode cX10_minute 176 = .ok (.iaload, 1) := by decide +kernel
theorem dX10_minute_177 : decode cX10_minute 177 = .ok (.iconst 1, 1) := by decide +kernel
theorem dX10_minute_178 : decode cX10_minute 178 = .ok (.iadd, 1) := by decide +kernel
theorem dX10_minute_179 : decode cX10_minute 179 = .ok (.iastore, 1) := by decide +kernel
theorem dX10_minute_180 : decode cX10_minute 180 = .ok (.aload_n 0, 1) := by decide +kernel
theorem dX10_minute_181 : decode cX10_minute 181 = .ok (.getfield 7, 3) := by decide +kernel
theorem dX10_minute_184 : decode cX10_minute 184 = .ok (.iconst 0, 1) := by decide +kernel
theorem dX10_minute_185 : decode cX10_minute 185 = .ok (.iaload, 1) := by decide +kernel
theorem dX10_minute_186 : decode cX10_minute 186 = .ok (.sipush 1440, 3) := by decide +kernel
theorem dX10_minute_189 : decode cX10_minute 189 = .ok (.irem, 1) := by decide +kernel
theorem dX10_minute_190 : decode cX10_minute 190 = .ok (.ifCond .ne 26, 3) := by decide +kernel
theorem dX10_minute_193 : decode cX10_minute 193 = .ok (.aload_n 0, 1) := by decide +kernel
theorem dX10_minute_194 : decode cX10_minute 194 = .ok (.getfield 7, 3) := by decide +kernel
theorem dX10_minute_197 : decode cX10_minute 197 = .ok (.bipush 6, 2) := by decide +kernel
theorem dX10_minute_199 : decode cX10_minute 199 = .ok (.iaload, 1) := by decide +kernel
theorem dX10_minute_200 : decode cX10_minute 200 = .ok (.bipush 20, 2) := by decide +kernel
theorem dX10_minute_202 : decode cX10_minute 202 = .ok (.if_icmp .le 14, 3) := by decide +kernel
theorem dX10_minute_205 : decode cX10_minute 205 = .ok (.aload_n 0, 1) := by decide +kernel
theorem dX10_minute_206 : decode cX10_minute 206 = .ok (.getfield 7, 3) := by decide +kernel
theorem dX10_minute_209 : decode cX10_minute 209 = .ok (.bipush 6, 2) := by decide +kernel
theorem dX10_minute_211 : decode cX10_minute 211 = .ok (.dup2, 1) := by decide +kernel
theorem dX10_minute_212 : decode cX10_minute 212 = .ok (.iaload, 1) := by decide +kernel
theorem dX10_minute_213 : decode cX10_minute 213 = .ok (.iconst 1, 1) := by decide +kernel
theorem dX10_minute_214 : decode cX10_minute 214 = .ok (.isub, 1) := by decide +kernel
theorem dX10_minute_215 : decode cX10_minute 215 = .ok (.iastore, 1) := by decide +kernel
theorem dX10_minute_216 : decode cX10_minute 216 = .ok (.iconst 0, 1) := by decide +kernel
theorem dX10_minute_217 : decode cX10_minute 217 = .ok (.ireturn, 1) := by decide +kernel
theorem dX10_minutes_0 : decode cX10_minutes 0 = .ok (.iconst 0, 1) := by decide +kernel
theorem dX10_minutes_1 : decode cX10_minutes 1 = .ok (.istore_n 3, 1) := by decide +kernel
theorem dX10_minutes_2 : decode cX10_minutes 2 = .ok (.iload_n 3, 1) := by decide +kernel
theorem dX10_minutes_3 : decode cX10_minutes 3 = .ok (.iload_n 1, 1) := by decide +kernel
theorem dX10_minutes_4 : decode cX10_minutes 4 = .ok (.if_icmp .ge 25, 3) := by decide +kernel
theorem dX10_minutes_7 : decode cX10_minutes 7 = .ok (.aload_n 0, 1) := by decide +kernel
theorem dX10_minutes_8 : decode cX10_minutes 8 = .ok (.iload_n 2, 1) := by decide +kernel
theorem dX10_minutes_9 : decode cX10_minutes 9 = .ok (.iconst 1, 1) := by decide +kernel
theorem dX10_minutes_10 : decode cX10_minutes 10 = .ok (.invokevirtual 52, 3) := by decide +kernel
theorem dX10_minutes_13 : decode cX10_minutes 13 = .ok (.istore 4, 2) := by decide +kernel
theorem dX10_minutes_15 : decode cX10_minutes 15 = .ok (.iload 4, 2) := by decide +kernel
theorem dX10_minutes_17 : decode cX10_minutes 17 = .ok (.ifCond .le 6, 3) := by decide +kernel
theorem dX10_minutes_20 : decode cX10_minutes 20 = .ok (.iload 4, 2) := by decide +kernel
theorem dX10_minutes_22 : decode cX10_minutes 22 = .ok (.ireturn, 1) := by decide +kernel
theorem dX10_minutes_23 : decode cX10_minutes 23 = .ok (.iinc 3 1, 3) := by decide +kernel
theorem dX10_minutes_26 : decode cX10_minutes 26 = .ok (.goto (-24), 3) := by decide +kernel
theorem dX10_minutes_29 : decode cX10_minutes 29 = .ok (.iconst 0, 1) := by decide +kernel
theorem dX10_minutes_30 : decode cX10_minutes 30 = .ok (.ireturn, 1) := by decide +kernel
theorem dX10_units_0 : decode cX10_units 0 = .ok (.iconst 0, 1) := by decide +kernel
theorem dX10_units_1 : decode cX10_units 1 = .ok (.istore_n 1, 1) := by decide +kernel
theorem dX10_units_2 : decode cX10_units 2 = .ok (.aload_n 0, 1) := by decide +kernel
theorem dX10_units_3 : decode cX10_units 3 = .ok (.getfield 14, 3) := by decide +kernel
theorem dX10_units_6 : decode cX10_units 6 = .ok (.astore_n 2, 1) := by decide +kernel
theorem dX10_units_7 : decode cX10_units 7 = .ok (.aload_n 2, 1) := by decide +kernel
theorem dX10_units_8 : decode cX10_units 8 = .ok (.arraylength, 1) := by decide +kernel
theorem dX10_units_9 : decode cX10_units 9 = .ok (.istore_n 3, 1) := by decide +kernel
theorem dX10_units_10 : decode cX10_units 10 = .ok (.iconst 0, 1) := by decide +kernel
theorem dX10_units_11 : decode cX10_units 11 = .ok (.istore 4, 2) := by decide +kernel
theorem dX10_units_13 : decode cX10_units 13 = .ok (.iload 4, 2) := by decide +kernel
theorem dX10_units_15 : decode cX10_units 15 = .ok (.iload_n 3, 1) := by decide +kernel
theorem dX10_units_16 : decode cX10_units 16 = .ok (.if_icmp .ge 22, 3) := by decide +kernel
theorem dX10_units_19 : decode cX10_units 19 = .ok (.aload_n 2, 1) := by decide +kernel
theorem dX10_units_20 : decode cX10_units 20 = .ok (.iload 4, 2) := by decide +kernel
theorem dX10_units_22 : decode cX10_units 22 = .ok (.aaload, 1) := by decide +kernel
theorem dX10_units_23 : decode cX10_units 23 = .ok (.astore 5, 2) := by decide +kernel
theorem dX10_units_25 : decode cX10_units 25 = .ok (.iload_n 1, 1) := by decide +kernel
theorem dX10_units_26 : decode cX10_units 26 = .ok (.aload 5, 2) := by decide +kernel
theorem dX10_units_28 : decode cX10_units 28 = .ok (.iconst 1, 1) := by decide +kernel
theorem dX10_units_29 : decode cX10_units 29 = .ok (.iaload, 1) := by decide +kernel
theorem dX10_units_30 : decode cX10_units 30 = .ok (.iadd, 1) := by decide +kernel
theorem dX10_units_31 : decode cX10_units 31 = .ok (.istore_n 1, 1) := by decide +kernel
theorem dX10_units_32 : decode cX10_units 32 = .ok (.iinc 4 1, 3) := by decide +kernel
theorem dX10_units_35 : decode cX10_units 35 = .ok (.goto (-22), 3) := by decide +kernel
theorem dX10_units_38 : decode cX10_units 38 = .ok (.iload_n 1, 1) := by decide +kernel
theorem dX10_units_39 : decode cX10_units 39 = .ok (.ireturn, 1) := by decide +kernel
theorem dX10_images_0 : decode cX10_images 0 = .ok (.aload_n 0, 1) := by decide +kernel
theorem dX10_images_1 : decode cX10_images 1 = .ok (.getfield 18, 3) := by decide +kernel
theorem dX10_images_4 : decode cX10_images 4 = .ok (.iload_n 1, 1) := by decide +kernel
theorem dX10_images_5 : decode cX10_images 5 = .ok (.iaload, 1) := by decide +kernel
theorem dX10_images_6 : decode cX10_images 6 = .ok (.istore_n 2, 1) := by decide +kernel
theorem dX10_images_7 : decode cX10_images 7 = .ok (.aload_n 0, 1) := by decide +kernel
theorem dX10_images_8 : decode cX10_images 8 = .ok (.getfield 14, 3) := by decide +kernel
theorem dX10_images_11 : decode cX10_images 11 = .ok (.astore_n 3, 1) := by decide +kernel
theorem dX10_images_12 : decode cX10_images 12 = .ok (.aload_n 3, 1) := by decide +kernel
theorem dX10_images_13 : decode cX10_images 13 = .ok (.arraylength, 1) := by decide +kernel
theorem dX10_images_14 : decode cX10_images 14 = .ok (.istore 4, 2) := by decide +kernel
theorem dX10_images_16 : decode cX10_images 16 = .ok (.iconst 0, 1) := by decide +kernel
theorem dX10_images_17 : decode cX10_images 17 = .ok (.istore 5, 2) := by decide +kernel
theorem dX10_images_19 : decode cX10_images 19 = .ok (.iload 5, 2) := by decide +kernel
theorem dX10_images_21 : decode cX10_images 21 = .ok (.iload 4, 2) := by decide +kernel
theorem dX10_images_23 : decode cX10_images 23 = .ok (.if_icmp .ge 41, 3) := by decide +kernel
theorem dX10_images_26 : decode cX10_images 26 = .ok (.aload_n 3, 1) := by decide +kernel
theorem dX10_images_27 : decode cX10_images 27 = .ok (.iload 5, 2) := by decide +kernel
theorem dX10_images_29 : decode cX10_images 29 = .ok (.aaload, 1) := by decide +kernel
theorem dX10_images_30 : decode cX10_images 30 = .ok (.astore 6, 2) := by decide +kernel
theorem dX10_images_32 : decode cX10_images 32 = .ok (.aload 6, 2) := by decide +kernel
theorem dX10_images_34 : decode cX10_images 34 = .ok (.iconst 0, 1) := by decide +kernel
theorem dX10_images_35 : decode cX10_images 35 = .ok (.iaload, 1) := by decide +kernel
theorem dX10_images_36 : decode cX10_images 36 = .ok (.iload_n 1, 1) := by decide +kernel
theorem dX10_images_37 : decode cX10_images 37 = .ok (.if_icmp .ne 21, 3) := by decide +kernel
theorem dX10_images_40 : decode cX10_images 40 = .ok (.aload 6, 2) := by decide +kernel
theorem dX10_images_42 : decode cX10_images 42 = .ok (.iconst 3, 1) := by decide +kernel
theorem dX10_images_43 : decode cX10_images 43 = .ok (.iaload, 1) := by decide +kernel
theorem dX10_images_44 : decode cX10_images 44 = .ok (.bipush 9, 2) := by decide +kernel
theorem dX10_images_46 : decode cX10_images 46 = .ok (.if_icmp .eq 12, 3) := by decide +kernel
theorem dX10_images_49 : decode cX10_images 49 = .ok (.iload_n 2, 1) := by decide +kernel
theorem dX10_images_50 : decode cX10_images 50 = .ok (.iconst 1, 1) := by decide +kernel
theorem dX10_images_51 : decode cX10_images 51 = .ok (.aload 6, 2) := by decide +kernel
theorem dX10_images_53 : decode cX10_images 53 = .ok (.iconst 3, 1) := by decide +kernel
theorem dX10_images_54 : decode cX10_images 54 = .ok (.iaload, 1) := by decide +kernel
theorem dX10_images_55 : decode cX10_images 55 = .ok (.ishl, 1) := by decide +kernel
theorem dX10_images_56 : decode cX10_images 56 = .ok (.ior, 1) := by decide +kernel
theorem dX10_images_57 : decode cX10_images 57 = .ok (.istore_n 2, 1) := by decide +kernel
theorem dX10_images_58 : decode cX10_images 58 = .ok (.iinc 5 1, 3) := by decide +kernel
theorem dX10_images_61 : decode cX10_images 61 = .ok (.goto (-42), 3) := by decide +kernel
theorem dX10_images_64 : decode cX10_images 64 = .ok (.iload_n 2, 1) := by decide +kernel
theorem dX10_images_65 : decode cX10_images 65 = .ok (.ireturn, 1) := by decide +kernel
theorem dX10_octant_0 : decode cX10_octant 0 = .ok (.aload_n 0, 1) := by decide +kernel
theorem dX10_octant_1 : decode cX10_octant 1 = .ok (.getfield 7, 3) := by decide +kernel
theorem dX10_octant_4 : decode cX10_octant 4 = .ok (.iconst 1, 1) := by decide +kernel
theorem dX10_octant_5 : decode cX10_octant 5 = .ok (.iaload, 1) := by decide +kernel
theorem dX10_octant_6 : decode cX10_octant 6 = .ok (.aload_n 0, 1) := by decide +kernel
theorem dX10_octant_7 : decode cX10_octant 7 = .ok (.getfield 32, 3) := by decide +kernel
theorem dX10_octant_10 : decode cX10_octant 10 = .ok (.iload_n 1, 1) := by decide +kernel
theorem dX10_octant_11 : decode cX10_octant 11 = .ok (.aaload, 1) := by decide +kernel
theorem dX10_octant_12 : decode cX10_octant 12 = .ok (.iconst 0, 1) := by decide +kernel
theorem dX10_octant_13 : decode cX10_octant 13 = .ok (.iaload, 1) := by decide +kernel
theorem dX10_octant_14 : decode cX10_octant 14 = .ok (.invokestatic 56, 3) := by decide +kernel
theorem dX10_octant_17 : decode cX10_octant 17 = .ok (.istore_n 2, 1) := by decide +kernel
theorem dX10_octant_18 : decode cX10_octant 18 = .ok (.aload_n 0, 1) := by decide +kernel
theorem dX10_octant_19 : decode cX10_octant 19 = .ok (.getfield 7, 3) := by decide +kernel
theorem dX10_octant_22 : decode cX10_octant 22 = .ok (.iconst 2, 1) := by decide +kernel
theorem dX10_octant_23 : decode cX10_octant 23 = .ok (.iaload, 1) := by decide +kernel
theorem dX10_octant_24 : decode cX10_octant 24 = .ok (.aload_n 0, 1) := by decide +kernel
theorem dX10_octant_25 : decode cX10_octant 25 = .ok (.getfield 32, 3) := by decide +kernel
theorem dX10_octant_28 : decode cX10_octant 28 = .ok (.iload_n 1, 1) := by decide +kernel
theorem dX10_octant_29 : decode cX10_octant 29 = .ok (.aaload, 1) := by decide +kernel
theorem dX10_octant_30 : decode cX10_octant 30 = .ok (.iconst 1, 1) := by decide +kernel
theorem dX10_octant_31 : decode cX10_octant 31 = .ok (.iaload, 1) := by decide +kernel
theorem dX10_octant_32 : decode cX10_octant 32 = .ok (.invokestatic 56, 3) := by decide +kernel
theorem dX10_octant_35 : decode cX10_octant 35 = .ok (.istore_n 3, 1) := by decide +kernel
theorem dX10_octant_36 : decode cX10_octant 36 = .ok (.bipush 8, 2) := by decide +kernel
theorem dX10_octant_38 : decode cX10_octant 38 = .ok (.istore 4, 2) := by decide +kernel
theorem dX10_octant_40 : decode cX10_octant 40 = .ok (.iconst 0, 1) := by decide +kernel
theorem dX10_octant_41 : decode cX10_octant 41 = .ok (.istore 5, 2) := by decide +kernel
theorem dX10_octant_43 : decode cX10_octant 43 = .ok (.iload 5, 2) := by decide +kernel
theorem dX10_octant_45 : decode cX10_octant 45 = .ok (.bipush 8, 2) := by decide +kernel
theorem dX10_octant_47 : decode cX10_octant 47 = .ok (.if_icmp .ge 33, 3) := by decide +kernel
theorem dX10_octant_50 : decode cX10_octant 50 = .ok (.getstatic 62, 3) := by decide +kernel
theorem dX10_octant_53 : decode cX10_octant 53 = .ok (.iload 5, 2) := by decide +kernel
theorem dX10_octant_55 : decode cX10_octant 55 = .ok (.iaload, 1) := by decide +kernel
theorem dX10_octant_56 : decode cX10_octant 56 = .ok (.iload_n 2, 1) := by decide +kernel
theorem dX10_octant_57 : decode cX10_octant 57 = .ok (.if_icmp .ne 17, 3) := by decide +kernel
theorem dX10_octant_60 : decode cX10_octant 60 = .ok (.getstatic 67, 3) := by decide +kernel
theorem dX10_octant_63 : decode cX10_octant 63 = .ok (.iload 5, 2) := by decide +kernel
theorem dX10_octant_65 : decode cX10_octant 65 = .ok (.iaload, 1) := by decide +kernel
theorem dX10_octant_66 : decode cX10_octant 66 = .ok (.iload_n 3, 1) := by decide +kernel
theorem dX10_octant_67 : decode cX10_octant 67 = .ok (.if_icmp .ne 7, 3) := by decide +kernel
theorem dX10_octant_70 : decode cX10_octant 70 = .ok (.iload 5, 2) := by decide +kernel
theorem dX10_octant_72 : decode cX10_octant 72 = .ok (.istore 4, 2) := by decide +kernel
theorem dX10_octant_74 : decode cX10_octant 74 = .ok (.iinc 5 1, 3) := by decide +kernel
theorem dX10_octant_77 : decode cX10_octant 77 = .ok (.goto (-34), 3) := by decide +kernel
theorem dX10_octant_80 : decode cX10_octant 80 = .ok (.iload 4, 2) := by decide +kernel
theorem dX10_octant_82 : decode cX10_octant 82 = .ok (.ireturn, 1) := by decide +kernel
theorem dX10_picture_0 : decode cX10_picture 0 = .ok (.aload_n 0, 1) := by decide +kernel
theorem dX10_picture_1 : decode cX10_picture 1 = .ok (.getfield 32, 3) := by decide +kernel
theorem dX10_picture_4 : decode cX10_picture 4 = .ok (.iload_n 2, 1) := by decide +kernel
theorem dX10_picture_5 : decode cX10_picture 5 = .ok (.aaload, 1) := by decide +kernel
theorem dX10_picture_6 : decode cX10_picture 6 = .ok (.iconst 0, 1) := by decide +kernel
theorem dX10_picture_7 : decode cX10_picture 7 = .ok (.iaload, 1) := by decide +kernel
theorem dX10_picture_8 : decode cX10_picture 8 = .ok (.aload_n 0, 1) := by decide +kernel
theorem dX10_picture_9 : decode cX10_picture 9 = .ok (.getfield 7, 3) := by decide +kernel
theorem dX10_picture_12 : decode cX10_picture 12 = .ok (.iconst 1, 1) := by decide +kernel
theorem dX10_picture_13 : decode cX10_picture 13 = .ok (.iaload, 1) := by decide +kernel
theorem dX10_picture_14 : decode cX10_picture 14 = .ok (.isub, 1) := by decide +kernel
theorem dX10_picture_15 : decode cX10_picture 15 = .ok (.invokestatic 70, 3) := by decide +kernel
theorem dX10_picture_18 : decode cX10_picture 18 = .ok (.aload_n 0, 1) := by decide +kernel
theorem dX10_picture_19 : decode cX10_picture 19 = .ok (.getfield 32, 3) := by decide +kernel
theorem dX10_picture_22 : decode cX10_picture 22 = .ok (.iload_n 2, 1) := by decide +kernel
theorem dX10_picture_23 : decode cX10_picture 23 = .ok (.aaload, 1) := by decide +kernel
theorem dX10_picture_24 : decode cX10_picture 24 = .ok (.iconst 1, 1) := by decide +kernel
theorem dX10_picture_25 : decode cX10_picture 25 = .ok (.iaload, 1) := by decide +kernel
theorem dX10_picture_26 : decode cX10_picture 26 = .ok (.aload_n 0, 1) := by decide +kernel
theorem dX10_picture_27 : decode cX10_picture 27 = .ok (.getfield 7, 3) := by decide +kernel
theorem dX10_picture_30 : decode cX10_picture 30 = .ok (.iconst 2, 1) := by decide +kernel
theorem dX10_picture_31 : decode cX10_picture 31 = .ok (.iaload, 1) := by decide +kernel
theorem dX10_picture_32 : decode cX10_picture 32 = .ok (.isub, 1) := by decide +kernel
theorem dX10_picture_33 : decode cX10_picture 33 = .ok (.invokestatic 70, 3) := by decide +kernel
theorem dX10_picture_36 : decode cX10_picture 36 = .ok (.invokestatic 76, 3) := by decide +kernel
theorem dX10_picture_39 : decode cX10_picture 39 = .ok (.istore 4, 2) := by decide +kernel
theorem dX10_picture_41 : decode cX10_picture 41 = .ok (.iload_n 1, 1) := by decide +kernel
theorem dX10_picture_42 : decode cX10_picture 42 = .ok (.ifCond .eq 12, 3) := by decide +kernel
theorem dX10_picture_45 : decode cX10_picture 45 = .ok (.iload 4, 2) := by decide +kernel
theorem dX10_picture_47 : decode cX10_picture 47 = .ok (.iconst 1, 1) := by decide +kernel
theorem dX10_picture_48 : decode cX10_picture 48 = .ok (.if_icmp .le 53, 3) := by decide +kernel
theorem dX10_picture_51 : decode cX10_picture 51 = .ok (.goto 48, 3) := by decide +kernel
theorem dX10_picture_54 : decode cX10_picture 54 = .ok (.iload 4, 2) := by decide +kernel
theorem dX10_picture_56 : decode cX10_picture 56 = .ok (.bipush 6, 2) := by decide +kernel
theorem dX10_picture_58 : decode cX10_picture 58 = .ok (.if_icmp .gt 41, 3) := by decide +kernel
theorem dX10_picture_61 : decode cX10_picture 61 = .ok (.aload_n 0, 1) := by decide +kernel
theorem dX10_picture_62 : decode cX10_picture 62 = .ok (.getfield 45, 3) := by decide +kernel
theorem dX10_picture_65 : decode cX10_picture 65 = .ok (.aload_n 0, 1) := by decide +kernel
theorem dX10_picture_66 : decode cX10_picture 66 = .ok (.getfield 7, 3) := by decide +kernel
theorem dX10_picture_69 : decode cX10_picture 69 = .ok (.iconst 1, 1) := by decide +kernel
theorem dX10_picture_70 : decode cX10_picture 70 = .ok (.iaload, 1) := by decide +kernel
theorem dX10_picture_71 : decode cX10_picture 71 = .ok (.aload_n 0, 1) := by decide +kernel
theorem dX10_picture_72 : decode cX10_picture 72 = .ok (.getfield 7, 3) := by decide +kernel
theorem dX10_picture_75 : decode cX10_picture 75 = .ok (.iconst 2, 1) := by decide +kernel
theorem dX10_picture_76 : decode cX10_picture 76 = .ok (.iaload, 1) := by decide +kernel
theorem dX10_picture_77 : decode cX10_picture 77 = .ok (.aload_n 0, 1) := by decide +kernel
theorem dX10_picture_78 : decode cX10_picture 78 = .ok (.getfield 32, 3) := by decide +kernel
theorem dX10_picture_81 : decode cX10_picture 81 = .ok (.iload_n 2, 1) := by decide +kernel
theorem dX10_picture_82 : decode cX10_picture 82 = .ok (.aaload, 1) := by decide +kernel
theorem dX10_picture_83 : decode cX10_picture 83 = .ok (.iconst 0, 1) := by decide +kernel
theorem dX10_picture_84 : decode cX10_picture 84 = .ok (.iaload, 1) := by decide +kernel
theorem dX10_picture_85 : decode cX10_picture 85 = .ok (.aload_n 0, 1) := by decide +kernel
theorem dX10_picture_86 : decode cX10_picture 86 = .ok (.getfield 32, 3) := by decide +kernel
theorem dX10_picture_89 : decode cX10_picture 89 = .ok (.iload_n 2, 1) := by decide +kernel
theorem dX10_picture_90 : decode cX10_picture 90 = .ok (.aaload, 1) := by decide +kernel
theorem dX10_picture_91 : decode cX10_picture 91 = .ok (.iconst 1, 1) := by decide +kernel
theorem dX10_picture_92 : decode cX10_picture 92 = .ok (.iaload, 1) := by decide +kernel
theorem dX10_picture_93 : decode cX10_picture 93 = .ok (.invokestatic 79, 3) := by decide +kernel
theorem dX10_picture_96 : decode cX10_picture 96 = .ok (.ifCond .ne 5, 3) := by decide +kernel
theorem dX10_picture_99 : decode cX10_picture 99 = .ok (.iconst 5, 1) := by decide +kernel
theorem dX10_picture_100 : decode cX10_picture 100 = .ok (.ireturn, 1) := by decide +kernel
theorem dX10_picture_101 : decode cX10_picture 101 = .ok (.aload_n 0, 1) := by decide +kernel
theorem dX10_picture_102 : decode cX10_picture 102 = .ok (.getfield 7, 3) := by decide +kernel
theorem dX10_picture_105 : decode cX10_picture 105 = .ok (.iconst 4, 1) := by decide +kernel
theorem dX10_picture_106 : decode cX10_picture 106 = .ok (.iaload, 1) := by decide +kernel
theorem dX10_picture_107 : decode cX10_picture 107 = .ok (.bipush (-40), 2) := by decide +kernel
theorem dX10_picture_109 : decode cX10_picture 109 = .ok (.if_icmp .ge 5, 3) := by decide +kernel
theorem dX10_picture_112 : decode cX10_picture 112 = .ok (.iconst 3, 1) := by decide +kernel
theorem dX10_picture_113 : decode cX10_picture 113 = .ok (.ireturn, 1) := by decide +kernel
theorem dX10_picture_114 : decode cX10_picture 114 = .ok (.iload_n 1, 1) := by decide +kernel
theorem dX10_picture_115 : decode cX10_picture 115 = .ok (.ifCond .eq 8, 3) := by decide +kernel
theorem dX10_picture_118 : decode cX10_picture 118 = .ok (.bipush 90, 2) := by decide +kernel
theorem dX10_picture_120 : decode cX10_picture 120 = .ok (.goto 5, 3) := by decide +kernel
theorem dX10_picture_123 : decode cX10_picture 123 = .ok (.bipush 40, 2) := by decide +kernel
theorem dX10_picture_125 : decode cX10_picture 125 = .ok (.istore 5, 2) := by decide +kernel
theorem dX10_picture_127 : decode cX10_picture 127 = .ok (.aload_n 0, 1) := by decide +kernel
theorem dX10_picture_128 : decode cX10_picture 128 = .ok (.invokevirtual 83, 3) := by decide +kernel
theorem dX10_picture_131 : decode cX10_picture 131 = .ok (.iload 5, 2) := by decide +kernel
theorem dX10_picture_133 : decode cX10_picture 133 = .ok (.iadd, 1) := by decide +kernel
theorem dX10_picture_134 : decode cX10_picture 134 = .ok (.aload_n 0, 1) := by decide +kernel
theorem dX10_picture_135 : decode cX10_picture 135 = .ok (.getfield 25, 3) := by decide +kernel
theorem dX10_picture_138 : decode cX10_picture 138 = .ok (.if_icmp .le 5, 3) := by decide +kernel
theorem dX10_picture_141 : decode cX10_picture 141 = .ok (.iconst 4, 1) := by decide +kernel
theorem dX10_picture_142 : decode cX10_picture 142 = .ok (.ireturn, 1) := by decide +kernel
theorem dX10_picture_143 : decode cX10_picture 143 = .ok (.iload_n 1, 1) := by decide +kernel
theorem dX10_picture_144 : decode cX10_picture 144 = .ok (.ifCond .eq 13, 3) := by decide +kernel
theorem dX10_picture_147 : decode cX10_picture 147 = .ok (.aload_n 0, 1) := by decide +kernel
theorem dX10_picture_148 : decode cX10_picture 148 = .ok (.bipush 25, 2) := by decide +kernel
theorem dX10_picture_150 : decode cX10_picture 150 = .ok (.iconst 5, 1) := by decide +kernel
theorem dX10_picture_151 : decode cX10_picture 151 = .ok (.invokevirtual 86, 3) := by decide +kernel
theorem dX10_picture_154 : decode cX10_picture 154 = .ok (.goto 10, 3) := by decide +kernel
theorem dX10_picture_157 : decode cX10_picture 157 = .ok (.aload_n 0, 1) := by decide +kernel
theorem dX10_picture_158 : decode cX10_picture 158 = .ok (.bipush 6, 2) := by decide +kernel
theorem dX10_picture_160 : decode cX10_picture 160 = .ok (.iconst 3, 1) := by decide +kernel
theorem dX10_picture_161 : decode cX10_picture 161 = .ok (.invokevirtual 86, 3) := by decide +kernel
theorem dX10_picture_164 : decode cX10_picture 164 = .ok (.istore 6, 2) := by decide +kernel
theorem dX10_picture_166 : decode cX10_picture 166 = .ok (.iload 6, 2) := by decide +kernel
theorem dX10_picture_168 : decode cX10_picture 168 = .ok (.ifCond .le 6, 3) := by decide +kernel
theorem dX10_picture_171 : decode cX10_picture 171 = .ok (.iload 6, 2) := by decide +kernel
theorem dX10_picture_173 : decode cX10_picture 173 = .ok (.ireturn, 1) := by decide +kernel
theorem dX10_picture_174 : decode cX10_picture 174 = .ok (.aload_n 0, 1) := by decide +kernel
theorem dX10_picture_175 : decode cX10_picture 175 = .ok (.getfield 14, 3) := by decide +kernel
theorem dX10_picture_178 : decode cX10_picture 178 = .ok (.arraylength, 1) := by decide +kernel
theorem dX10_picture_179 : decode cX10_picture 179 = .ok (.iconst 1, 1) := by decide +kernel
theorem dX10_picture_180 : decode cX10_picture 180 = .ok (.iadd, 1) := by decide +kernel
theorem dX10_picture_181 : decode cX10_picture 181 = .ok (.anewarray 13, 3) := by decide +kernel
theorem dX10_picture_184 : decode cX10_picture 184 = .ok (.astore 7, 2) := by decide +kernel
theorem dX10_picture_186 : decode cX10_picture 186 = .ok (.iconst 0, 1) := by decide +kernel
theorem dX10_picture_187 : decode cX10_picture 187 = .ok (.istore 8, 2) := by decide +kernel
theorem dX10_picture_189 : decode cX10_picture 189 = .ok (.iload 8, 2) := by decide +kernel
theorem dX10_picture_191 : decode cX10_picture 191 = .ok (.aload_n 0, 1) := by decide +kernel
theorem dX10_picture_192 : decode cX10_picture 192 = .ok (.getfield 14, 3) := by decide +kernel
theorem dX10_picture_195 : decode cX10_picture 195 = .ok (.arraylength, 1) := by decide +kernel
theorem dX10_picture_196 : decode cX10_picture 196 = .ok (.if_icmp .ge 21, 3) := by decide +kernel
theorem dX10_picture_199 : decode cX10_picture 199 = .ok (.aload 7, 2) := by decide +kernel
theorem dX10_picture_201 : decode cX10_picture 201 = .ok (.iload 8, 2) := by decide +kernel
theorem dX10_picture_203 : decode cX10_picture 203 = .ok (.aload_n 0, 1) := by decide +kernel
theorem dX10_picture_204 : decode cX10_picture 204 = .ok (.getfield 14, 3) := by decide +kernel
theorem dX10_picture_207 : decode cX10_picture 207 = .ok (.iload 8, 2) := by decide +kernel
theorem dX10_picture_209 : decode cX10_picture 209 = .ok (.aaload, 1) := by decide +kernel
theorem dX10_picture_210 : decode cX10_picture 210 = .ok (.aastore, 1) := by decide +kernel
theorem dX10_picture_211 : decode cX10_picture 211 = .ok (.iinc 8 1, 3) := by decide +kernel
theorem dX10_picture_214 : decode cX10_picture 214 = .ok (.goto (-25), 3) := by decide +kernel
theorem dX10_picture_217 : decode cX10_picture 217 = .ok (.aload 7, 2) := by decide +kernel
theorem dX10_picture_219 : decode cX10_picture 219 = .ok (.aload_n 0, 1) := by decide +kernel
theorem dX10_picture_220 : decode cX10_picture 220 = .ok (.getfield 14, 3) := by decide +kernel
theorem dX10_picture_223 : decode cX10_picture 223 = .ok (.arraylength, 1) := by decide +kernel
theorem dX10_picture_224 : decode cX10_picture 224 = .ok (.iconst 4, 1) := by decide +kernel
theorem dX10_picture_225 : decode cX10_picture 225 = .ok (.newarray .int, 2) := by decide +kernel
theorem dX10_picture_227 : decode cX10_picture 227 = .ok (.dup, 1) := by decide +kernel
theorem dX10_picture_228 : decode cX10_picture 228 = .ok (.iconst 0, 1) := by decide +kernel
theorem dX10_picture_229 : decode cX10_picture 229 = .ok (.iload_n 2, 1) := by decide +kernel
theorem dX10_picture_230 : decode cX10_picture 230 = .ok (.iastore, 1) := by decide +kernel
theorem dX10_picture_231 : decode cX10_picture 231 = .ok (.dup, 1) := by decide +kernel
theorem dX10_picture_232 : decode cX10_picture 232 = .ok (.iconst 1, 1) := by decide +kernel
theorem dX10_picture_233 : decode cX10_picture 233 = .ok (.iload 5, 2) := by decide +kernel
theorem dX10_picture_235 : decode cX10_picture 235 = .ok (.iastore, 1) := by decide +kernel
theorem dX10_picture_236 : decode cX10_picture 236 = .ok (.dup, 1) := by decide +kernel
theorem dX10_picture_237 : decode cX10_picture 237 = .ok (.iconst 2, 1) := by decide +kernel
theorem dX10_picture_238 : decode cX10_picture 238 = .ok (.iload_n 3, 1) := by decide +kernel
theorem dX10_picture_239 : decode cX10_picture 239 = .ok (.iastore, 1) := by decide +kernel
theorem dX10_picture_240 : decode cX10_picture 240 = .ok (.dup, 1) := by decide +kernel
theorem dX10_picture_241 : decode cX10_picture 241 = .ok (.iconst 3, 1) := by decide +kernel
theorem dX10_picture_242 : decode cX10_picture 242 = .ok (.iload_n 1, 1) := by decide +kernel
theorem dX10_picture_243 : decode cX10_picture 243 = .ok (.ifCond .eq 8, 3) := by decide +kernel
theorem dX10_picture_246 : decode cX10_picture 246 = .ok (.bipush 9, 2) := by decide +kernel
theorem dX10_picture_248 : decode cX10_picture 248 = .ok (.goto 8, 3) := by decide +kernel
theorem dX10_picture_251 : decode cX10_picture 251 = .ok (.aload_n 0, 1) := by decide +kernel
theorem dX10_picture_252 : decode cX10_picture 252 = .ok (.iload_n 2, 1) := by decide +kernel
theorem dX10_picture_253 : decode cX10_picture 253 = .ok (.invokevirtual 89, 3) := by decide +kernel
theorem dX10_picture_256 : decode cX10_picture 256 = .ok (.iastore, 1) := by decide +kernel
theorem dX10_picture_257 : decode cX10_picture 257 = .ok (.aastore, 1) := by decide +kernel
theorem dX10_picture_258 : decode cX10_picture 258 = .ok (.aload_n 0, 1) := by decide +kernel
theorem dX10_picture_259 : decode cX10_picture 259 = .ok (.aload 7, 2) := by decide +kernel
theorem dX10_picture_261 : decode cX10_picture 261 = .ok (.putfield 14, 3) := by decide +kernel
theorem dX10_picture_264 : decode cX10_picture 264 = .ok (.aload_n 0, 1) := by decide +kernel
theorem dX10_picture_265 : decode cX10_picture 265 = .ok (.dup, 1) := by decide +kernel
theorem dX10_picture_266 : decode cX10_picture 266 = .ok (.getfield 42, 3) := by decide +kernel
theorem dX10_picture_269 : decode cX10_picture 269 = .ok (.iload 5, 2) := by decide +kernel
theorem dX10_picture_271 : decode cX10_picture 271 = .ok (.iadd, 1) := by decide +kernel
theorem dX10_picture_272 : decode cX10_picture 272 = .ok (.putfield 42, 3) := by decide +kernel
theorem dX10_picture_275 : decode cX10_picture 275 = .ok (.iconst 0, 1) := by decide +kernel
theorem dX10_picture_276 : decode cX10_picture 276 = .ok (.ireturn, 1) := by decide +kernel
theorem dX10_unit_0 : decode cX10_unit 0 = .ok (.iconst 0, 1) := by decide +kernel
theorem dX10_unit_1 : decode cX10_unit 1 = .ok (.istore_n 1, 1) := by decide +kernel
theorem dX10_unit_2 : decode cX10_unit 2 = .ok (.aload_n 0, 1) := by decide +kernel
theorem dX10_unit_3 : decode cX10_unit 3 = .ok (.getfield 14, 3) := by decide +kernel
theorem dX10_unit_6 : decode cX10_unit 6 = .ok (.arraylength, 1) := by decide +kernel
theorem dX10_unit_7 : decode cX10_unit 7 = .ok (.iconst 1, 1) := by decide +kernel
theorem dX10_unit_8 : decode cX10_unit 8 = .ok (.isub, 1) := by decide +kernel
theorem dX10_unit_9 : decode cX10_unit 9 = .ok (.istore_n 2, 1) := by decide +kernel
theorem dX10_unit_10 : decode cX10_unit 10 = .ok (.iload_n 2, 1) := by decide +kernel
theorem dX10_unit_11 : decode cX10_unit 11 = .ok (.ifCond .lt 30, 3) := by decide +kernel
theorem dX10_unit_14 : decode cX10_unit 14 = .ok (.aload_n 0, 1) := by decide +kernel
theorem dX10_unit_15 : decode cX10_unit 15 = .ok (.getfield 14, 3) := by decide +kernel
theorem dX10_unit_18 : decode cX10_unit 18 = .ok (.iload_n 2, 1) := by decide +kernel
theorem dX10_unit_19 : decode cX10_unit 19 = .ok (.aaload, 1) := by decide +kernel
theorem dX10_unit_20 : decode cX10_unit 20 = .ok (.iconst 2, 1) := by decide +kernel
theorem dX10_unit_21 : decode cX10_unit 21 = .ok (.iaload, 1) := by decide +kernel
theorem dX10_unit_22 : decode cX10_unit 22 = .ok (.aload_n 0, 1) := by decide +kernel
theorem dX10_unit_23 : decode cX10_unit 23 = .ok (.getfield 14, 3) := by decide +kernel
theorem dX10_unit_26 : decode cX10_unit 26 = .ok (.iload_n 1, 1) := by decide +kernel
theorem dX10_unit_27 : decode cX10_unit 27 = .ok (.aaload, 1) := by decide +kernel
theorem dX10_unit_28 : decode cX10_unit 28 = .ok (.iconst 2, 1) := by decide +kernel
theorem dX10_unit_29 : decode cX10_unit 29 = .ok (.iaload, 1) := by decide +kernel
theorem dX10_unit_30 : decode cX10_unit 30 = .ok (.if_icmp .lt 5, 3) := by decide +kernel
theorem dX10_unit_33 : decode cX10_unit 33 = .ok (.iload_n 2, 1) := by decide +kernel
theorem dX10_unit_34 : decode cX10_unit 34 = .ok (.istore_n 1, 1) := by decide +kernel
theorem dX10_unit_35 : decode cX10_unit 35 = .ok (.iinc 2 (-1), 3) := by decide +kernel
theorem dX10_unit_38 : decode cX10_unit 38 = .ok (.goto (-28), 3) := by decide +kernel
theorem dX10_unit_41 : decode cX10_unit 41 = .ok (.aload_n 0, 1) := by decide +kernel
theorem dX10_unit_42 : decode cX10_unit 42 = .ok (.getfield 14, 3) := by decide +kernel
theorem dX10_unit_45 : decode cX10_unit 45 = .ok (.iload_n 1, 1) := by decide +kernel
theorem dX10_unit_46 : decode cX10_unit 46 = .ok (.aaload, 1) := by decide +kernel
theorem dX10_unit_47 : decode cX10_unit 47 = .ok (.iconst 1, 1) := by decide +kernel
theorem dX10_unit_48 : decode cX10_unit 48 = .ok (.dup2, 1) := by decide +kernel
theorem dX10_unit_49 : decode cX10_unit 49 = .ok (.iaload, 1) := by decide +kernel
theorem dX10_unit_50 : decode cX10_unit 50 = .ok (.iconst 1, 1) := by decide +kernel
theorem dX10_unit_51 : decode cX10_unit 51 = .ok (.isub, 1) := by decide +kernel
theorem dX10_unit_52 : decode cX10_unit 52 = .ok (.iastore, 1) := by decide +kernel
theorem dX10_unit_53 : decode cX10_unit 53 = .ok (.aload_n 0, 1) := by decide +kernel
theorem dX10_unit_54 : decode cX10_unit 54 = .ok (.getfield 7, 3) := by decide +kernel
theorem dX10_unit_57 : decode cX10_unit 57 = .ok (.bipush 7, 2) := by decide +kernel
theorem dX10_unit_59 : decode cX10_unit 59 = .ok (.dup2, 1) := by decide +kernel
theorem dX10_unit_60 : decode cX10_unit 60 = .ok (.iaload, 1) := by decide +kernel
theorem dX10_unit_61 : decode cX10_unit 61 = .ok (.iconst 1, 1) := by decide +kernel
theorem dX10_unit_62 : decode cX10_unit 62 = .ok (.iadd, 1) := by decide +kernel
theorem dX10_unit_63 : decode cX10_unit 63 = .ok (.iastore, 1) := by decide +kernel
theorem dX10_unit_64 : decode cX10_unit 64 = .ok (.aload_n 0, 1) := by decide +kernel
theorem dX10_unit_65 : decode cX10_unit 65 = .ok (.getfield 14, 3) := by decide +kernel
theorem dX10_unit_68 : decode cX10_unit 68 = .ok (.iload_n 1, 1) := by decide +kernel
theorem dX10_unit_69 : decode cX10_unit 69 = .ok (.aaload, 1) := by decide +kernel
theorem dX10_unit_70 : decode cX10_unit 70 = .ok (.iconst 1, 1) := by decide +kernel
theorem dX10_unit_71 : decode cX10_unit 71 = .ok (.iaload, 1) := by decide +kernel
theorem dX10_unit_72 : decode cX10_unit 72 = .ok (.ifCond .le 4, 3) := by decide +kernel
theorem dX10_unit_75 : decode cX10_unit 75 = .ok (.return_, 1) := by decide +kernel
theorem dX10_unit_76 : decode cX10_unit 76 = .ok (.aload_n 0, 1) := by decide +kernel
theorem dX10_unit_77 : decode cX10_unit 77 = .ok (.getfield 14, 3) := by decide +kernel
theorem dX10_unit_80 : decode cX10_unit 80 = .ok (.iload_n 1, 1) := by decide +kernel
theorem dX10_unit_81 : decode cX10_unit 81 = .ok (.aaload, 1) := by decide +kernel
theorem dX10_unit_82 : decode cX10_unit 82 = .ok (.iconst 3, 1) := by decide +kernel
theorem dX10_unit_83 : decode cX10_unit 83 = .ok (.iaload, 1) := by decide +kernel
theorem dX10_unit_84 : decode cX10_unit 84 = .ok (.bipush 9, 2) := by decide +kernel
theorem dX10_unit_86 : decode cX10_unit 86 = .ok (.if_icmp .ne 20, 3) := by decide +kernel
theorem dX10_unit_89 : decode cX10_unit 89 = .ok (.aload_n 0, 1) := by decide +kernel
theorem dX10_unit_90 : decode cX10_unit 90 = .ok (.getfield 21, 3) := by decide +kernel
theorem dX10_unit_93 : decode cX10_unit 93 = .ok (.aload_n 0, 1) := by decide +kernel
theorem dX10_unit_94 : decode cX10_unit 94 = .ok (.getfield 14, 3) := by decide +kernel
theorem dX10_unit_97 : decode cX10_unit 97 = .ok (.iload_n 1, 1) := by decide +kernel
theorem dX10_unit_98 : decode cX10_unit 98 = .ok (.aaload, 1) := by decide +kernel
theorem dX10_unit_99 : decode cX10_unit 99 = .ok (.iconst 0, 1) := by decide +kernel
theorem dX10_unit_100 : decode cX10_unit 100 = .ok (.iaload, 1) := by decide +kernel
theorem dX10_unit_101 : decode cX10_unit 101 = .ok (.iconst 1, 1) := by decide +kernel
theorem dX10_unit_102 : decode cX10_unit 102 = .ok (.bastore, 1) := by decide +kernel
theorem dX10_unit_103 : decode cX10_unit 103 = .ok (.goto 29, 3) := by decide +kernel
theorem dX10_unit_106 : decode cX10_unit 106 = .ok (.aload_n 0, 1) := by decide +kernel
theorem dX10_unit_107 : decode cX10_unit 107 = .ok (.getfield 18, 3) := by decide +kernel
theorem dX10_unit_110 : decode cX10_unit 110 = .ok (.aload_n 0, 1) := by decide +kernel
theorem dX10_unit_111 : decode cX10_unit 111 = .ok (.getfield 14, 3) := by decide +kernel
theorem dX10_unit_114 : decode cX10_unit 114 = .ok (.iload_n 1, 1) := by decide +kernel
theorem dX10_unit_115 : decode cX10_unit 115 = .ok (.aaload, 1) := by decide +kernel
theorem dX10_unit_116 : decode cX10_unit 116 = .ok (.iconst 0, 1) := by decide +kernel
theorem dX10_unit_117 : decode cX10_unit 117 = .ok (.iaload, 1) := by decide +kernel
theorem dX10_unit_118 : decode cX10_unit 118 = .ok (.dup2, 1) := by decide +kernel
theorem dX10_unit_119 : decode cX10_unit 119 = .ok (.iaload, 1) := by decide +kernel
theorem dX10_unit_120 : decode cX10_unit 120 = .ok (.iconst 1, 1) := by decide +kernel
theorem dX10_unit_121 : decode cX10_unit 121 = .ok (.aload_n 0, 1) := by decide +kernel
theorem dX10_unit_122 : decode cX10_unit 122 = .ok (.getfield 14, 3) := by decide +kernel
theorem dX10_unit_125 : decode cX10_unit 125 = .ok (.iload_n 1, 1) := by decide +kernel
theorem dX10_unit_126 : decode cX10_unit 126 = .ok (.aaload, 1) := by decide +kernel
theorem dX10_unit_127 : decode cX10_unit 127 = .ok (.iconst 3, 1) := by decide +kernel
theorem dX10_unit_128 : decode cX10_unit 128 = .ok (.iaload, 1) := by decide +kernel
theorem dX10_unit_129 : decode cX10_unit 129 = .ok (.ishl, 1) := by decide +kernel
theorem dX10_unit_130 : decode cX10_unit 130 = .ok (.ior, 1) := by decide +kernel
theorem dX10_unit_131 : decode cX10_unit 131 = .ok (.iastore, 1) := by decide +kernel
theorem dX10_unit_132 : decode cX10_unit 132 = .ok (.aload_n 0, 1) := by decide +kernel
theorem dX10_unit_133 : decode cX10_unit 133 = .ok (.getfield 14, 3) := by decide +kernel
theorem dX10_unit_136 : decode cX10_unit 136 = .ok (.arraylength, 1) := by decide +kernel
theorem dX10_unit_137 : decode cX10_unit 137 = .ok (.iconst 1, 1) := by decide +kernel
theorem dX10_unit_138 : decode cX10_unit 138 = .ok (.isub, 1) := by decide +kernel
theorem dX10_unit_139 : decode cX10_unit 139 = .ok (.anewarray 13, 3) := by decide +kernel
theorem dX10_unit_142 : decode cX10_unit 142 = .ok (.astore_n 2, 1) := by decide +kernel
theorem dX10_unit_143 : decode cX10_unit 143 = .ok (.iconst 0, 1) := by decide +kernel
theorem dX10_unit_144 : decode cX10_unit 144 = .ok (.istore_n 3, 1) := by decide +kernel
theorem dX10_unit_145 : decode cX10_unit 145 = .ok (.iload_n 3, 1) := by decide +kernel
theorem dX10_unit_146 : decode cX10_unit 146 = .ok (.aload_n 2, 1) := by decide +kernel
theorem dX10_unit_147 : decode cX10_unit 147 = .ok (.arraylength, 1) := by decide +kernel
theorem dX10_unit_148 : decode cX10_unit 148 = .ok (.if_icmp .ge 29, 3) := by decide +kernel
theorem dX10_unit_151 : decode cX10_unit 151 = .ok (.aload_n 2, 1) := by decide +kernel
theorem dX10_unit_152 : decode cX10_unit 152 = .ok (.iload_n 3, 1) := by decide +kernel
theorem dX10_unit_153 : decode cX10_unit 153 = .ok (.aload_n 0, 1) := by decide +kernel
theorem dX10_unit_154 : decode cX10_unit 154 = .ok (.getfield 14, 3) := by decide +kernel
theorem dX10_unit_157 : decode cX10_unit 157 = .ok (.iload_n 3, 1) := by decide +kernel
theorem dX10_unit_158 : decode cX10_unit 158 = .ok (.iload_n 1, 1) := by decide +kernel
theorem dX10_unit_159 : decode cX10_unit 159 = .ok (.if_icmp .ge 7, 3) := by decide +kernel
theorem dX10_unit_162 : decode cX10_unit 162 = .ok (.iload_n 3, 1) := by decide +kernel
theorem dX10_unit_163 : decode cX10_unit 163 = .ok (.goto 6, 3) := by decide +kernel
theorem dX10_unit_166 : decode cX10_unit 166 = .ok (.iload_n 3, 1) := by decide +kernel
theorem dX10_unit_167 : decode cX10_unit 167 = .ok (.iconst 1, 1) := by decide +kernel
theorem dX10_unit_168 : decode cX10_unit 168 = .ok (.iadd, 1) := by decide +kernel
theorem dX10_unit_169 : decode cX10_unit 169 = .ok (.aaload, 1) := by decide +kernel
theorem dX10_unit_170 : decode cX10_unit 170 = .ok (.aastore, 1) := by decide +kernel
theorem dX10_unit_171 : decode cX10_unit 171 = .ok (.iinc 3 1, 3) := by decide +kernel
theorem dX10_unit_174 : decode cX10_unit 174 = .ok (.goto (-29), 3) := by decide +kernel
theorem dX10_unit_177 : decode cX10_unit 177 = .ok (.aload_n 0, 1) := by decide +kernel
theorem dX10_unit_178 : decode cX10_unit 178 = .ok (.aload_n 2, 1) := by decide +kernel
theorem dX10_unit_179 : decode cX10_unit 179 = .ok (.putfield 14, 3) := by decide +kernel
theorem dX10_unit_182 : decode cX10_unit 182 = .ok (.return_, 1) := by decide +kernel
theorem dX10_send_0 : decode cX10_send 0 = .ok (.aload_n 0, 1) := by decide +kernel
theorem dX10_send_1 : decode cX10_send 1 = .ok (.getfield 29, 3) := by decide +kernel
theorem dX10_send_4 : decode cX10_send 4 = .ok (.aload_n 0, 1) := by decide +kernel
theorem dX10_send_5 : decode cX10_send 5 = .ok (.getfield 7, 3) := by decide +kernel
theorem dX10_send_8 : decode cX10_send 8 = .ok (.iconst 0, 1) := by decide +kernel
theorem dX10_send_9 : decode cX10_send 9 = .ok (.iaload, 1) := by decide +kernel
theorem dX10_send_10 : decode cX10_send 10 = .ok (.sipush 1440, 3) := by decide +kernel
theorem dX10_send_13 : decode cX10_send 13 = .ok (.irem, 1) := by decide +kernel
theorem dX10_send_14 : decode cX10_send 14 = .ok (.iaload, 1) := by decide +kernel
theorem dX10_send_15 : decode cX10_send 15 = .ok (.ifCond .ne 6, 3) := by decide +kernel
theorem dX10_send_18 : decode cX10_send 18 = .ok (.bipush 6, 2) := by decide +kernel
theorem dX10_send_20 : decode cX10_send 20 = .ok (.ireturn, 1) := by decide +kernel
theorem dX10_send_21 : decode cX10_send 21 = .ok (.iconst 0, 1) := by decide +kernel
theorem dX10_send_22 : decode cX10_send 22 = .ok (.istore_n 2, 1) := by decide +kernel
theorem dX10_send_23 : decode cX10_send 23 = .ok (.iload_n 2, 1) := by decide +kernel
theorem dX10_send_24 : decode cX10_send 24 = .ok (.iload_n 1, 1) := by decide +kernel
theorem dX10_send_25 : decode cX10_send 25 = .ok (.if_icmp .ge 76, 3) := by decide +kernel
theorem dX10_send_28 : decode cX10_send 28 = .ok (.aload_n 0, 1) := by decide +kernel
theorem dX10_send_29 : decode cX10_send 29 = .ok (.getfield 14, 3) := by decide +kernel
theorem dX10_send_32 : decode cX10_send 32 = .ok (.arraylength, 1) := by decide +kernel
theorem dX10_send_33 : decode cX10_send 33 = .ok (.ifCond .le 68, 3) := by decide +kernel
theorem dX10_send_36 : decode cX10_send 36 = .ok (.aload_n 0, 1) := by decide +kernel
theorem dX10_send_37 : decode cX10_send 37 = .ok (.getfield 29, 3) := by decide +kernel
theorem dX10_send_40 : decode cX10_send 40 = .ok (.aload_n 0, 1) := by decide +kernel
theorem dX10_send_41 : decode cX10_send 41 = .ok (.getfield 7, 3) := by decide +kernel
theorem dX10_send_44 : decode cX10_send 44 = .ok (.iconst 0, 1) := by decide +kernel
theorem dX10_send_45 : decode cX10_send 45 = .ok (.iaload, 1) := by decide +kernel
theorem dX10_send_46 : decode cX10_send 46 = .ok (.sipush 1440, 3) := by decide +kernel
theorem dX10_send_49 : decode cX10_send 49 = .ok (.irem, 1) := by decide +kernel
theorem dX10_send_50 : decode cX10_send 50 = .ok (.iaload, 1) := by decide +kernel
theorem dX10_send_51 : decode cX10_send 51 = .ok (.istore_n 3, 1) := by decide +kernel
theorem dX10_send_52 : decode cX10_send 52 = .ok (.aload_n 0, 1) := by decide +kernel
theorem dX10_send_53 : decode cX10_send 53 = .ok (.iconst 4, 1) := by decide +kernel
theorem dX10_send_54 : decode cX10_send 54 = .ok (.iconst 1, 1) := by decide +kernel
theorem dX10_send_55 : decode cX10_send 55 = .ok (.invokevirtual 52, 3) := by decide +kernel
theorem dX10_send_58 : decode cX10_send 58 = .ok (.istore 4, 2) := by decide +kernel
theorem dX10_send_60 : decode cX10_send 60 = .ok (.iload 4, 2) := by decide +kernel
theorem dX10_send_62 : decode cX10_send 62 = .ok (.ifCond .le 6, 3) := by decide +kernel
theorem dX10_send_65 : decode cX10_send 65 = .ok (.iload 4, 2) := by decide +kernel
theorem dX10_send_67 : decode cX10_send 67 = .ok (.ireturn, 1) := by decide +kernel
theorem dX10_send_68 : decode cX10_send 68 = .ok (.iconst 0, 1) := by decide +kernel
theorem dX10_send_69 : decode cX10_send 69 = .ok (.istore 5, 2) := by decide +kernel
theorem dX10_send_71 : decode cX10_send 71 = .ok (.iload 5, 2) := by decide +kernel
theorem dX10_send_73 : decode cX10_send 73 = .ok (.iload_n 3, 1) := by decide +kernel
theorem dX10_send_74 : decode cX10_send 74 = .ok (.if_icmp .ge 21, 3) := by decide +kernel
theorem dX10_send_77 : decode cX10_send 77 = .ok (.aload_n 0, 1) := by decide +kernel
theorem dX10_send_78 : decode cX10_send 78 = .ok (.getfield 14, 3) := by decide +kernel
theorem dX10_send_81 : decode cX10_send 81 = .ok (.arraylength, 1) := by decide +kernel
theorem dX10_send_82 : decode cX10_send 82 = .ok (.ifCond .le 13, 3) := by decide +kernel
theorem dX10_send_85 : decode cX10_send 85 = .ok (.aload_n 0, 1) := by decide +kernel
theorem dX10_send_86 : decode cX10_send 86 = .ok (.invokevirtual 92, 3) := by decide +kernel
theorem dX10_send_89 : decode cX10_send 89 = .ok (.iinc 5 1, 3) := by decide +kernel
theorem dX10_send_92 : decode cX10_send 92 = .ok (.goto (-21), 3) := by decide +kernel
theorem dX10_send_95 : decode cX10_send 95 = .ok (.iinc 2 1, 3) := by decide +kernel
theorem dX10_send_98 : decode cX10_send 98 = .ok (.goto (-75), 3) := by decide +kernel
theorem dX10_send_101 : decode cX10_send 101 = .ok (.iconst 0, 1) := by decide +kernel
theorem dX10_send_102 : decode cX10_send 102 = .ok (.ireturn, 1) := by decide +kernel
theorem dX10_drive_0 : decode cX10_drive 0 = .ok (.aload_n 0, 1) := by decide +kernel
theorem dX10_drive_1 : decode cX10_drive 1 = .ok (.getfield 45, 3) := by decide +kernel
theorem dX10_drive_4 : decode cX10_drive 4 = .ok (.iload_n 1, 1) := by decide +kernel
theorem dX10_drive_5 : decode cX10_drive 5 = .ok (.iload_n 2, 1) := by decide +kernel
theorem dX10_drive_6 : decode cX10_drive 6 = .ok (.invokestatic 95, 3) := by decide +kernel
theorem dX10_drive_9 : decode cX10_drive 9 = .ok (.astore_n 3, 1) := by decide +kernel
theorem dX10_drive_10 : decode cX10_drive 10 = .ok (.aload_n 3, 1) := by decide +kernel
theorem dX10_drive_11 : decode cX10_drive 11 = .ok (.bipush 24, 2) := by decide +kernel
theorem dX10_drive_13 : decode cX10_drive 13 = .ok (.aload_n 0, 1) := by decide +kernel
theorem dX10_drive_14 : decode cX10_drive 14 = .ok (.getfield 7, 3) := by decide +kernel
theorem dX10_drive_17 : decode cX10_drive 17 = .ok (.iconst 2, 1) := by decide +kernel
theorem dX10_drive_18 : decode cX10_drive 18 = .ok (.iaload, 1) := by decide +kernel
theorem dX10_drive_19 : decode cX10_drive 19 = .ok (.imul, 1) := by decide +kernel
theorem dX10_drive_20 : decode cX10_drive 20 = .ok (.aload_n 0, 1) := by decide +kernel
theorem dX10_drive_21 : decode cX10_drive 21 = .ok (.getfield 7, 3) := by decide +kernel
theorem dX10_drive_24 : decode cX10_drive 24 = .ok (.iconst 1, 1) := by decide +kernel
theorem dX10_drive_25 : decode cX10_drive 25 = .ok (.iaload, 1) := by decide +kernel
theorem dX10_drive_26 : decode cX10_drive 26 = .ok (.iadd, 1) := by decide +kernel
theorem dX10_drive_27 : decode cX10_drive 27 = .ok (.iaload, 1) := by decide +kernel
theorem dX10_drive_28 : decode cX10_drive 28 = .ok (.ifCond .ge 5, 3) := by decide +kernel
theorem dX10_drive_31 : decode cX10_drive 31 = .ok (.iconst 1, 1) := by decide +kernel
theorem dX10_drive_32 : decode cX10_drive 32 = .ok (.ireturn, 1) := by decide +kernel
theorem dX10_drive_33 : decode cX10_drive 33 = .ok (.aload_n 0, 1) := by decide +kernel
theorem dX10_drive_34 : decode cX10_drive 34 = .ok (.getfield 7, 3) := by decide +kernel
theorem dX10_drive_37 : decode cX10_drive 37 = .ok (.iconst 1, 1) := by decide +kernel
theorem dX10_drive_38 : decode cX10_drive 38 = .ok (.iaload, 1) := by decide +kernel
theorem dX10_drive_39 : decode cX10_drive 39 = .ok (.iload_n 1, 1) := by decide +kernel
theorem dX10_drive_40 : decode cX10_drive 40 = .ok (.if_icmp .ne 13, 3) := by decide +kernel
theorem dX10_drive_43 : decode cX10_drive 43 = .ok (.aload_n 0, 1) := by decide +kernel
theorem dX10_drive_44 : decode cX10_drive 44 = .ok (.getfield 7, 3) := by decide +kernel
theorem dX10_drive_47 : decode cX10_drive 47 = .ok (.iconst 2, 1) := by decide +kernel
theorem dX10_drive_48 : decode cX10_drive 48 = .ok (.iaload, 1) := by decide +kernel
theorem dX10_drive_49 : decode cX10_drive 49 = .ok (.iload_n 2, 1) := by decide +kernel
theorem dX10_drive_50 : decode cX10_drive 50 = .ok (.if_icmp .eq 146, 3) := by decide +kernel
theorem dX10_drive_53 : decode cX10_drive 53 = .ok (.aload_n 0, 1) := by decide +kernel
theorem dX10_drive_54 : decode cX10_drive 54 = .ok (.getfield 7, 3) := by decide +kernel
theorem dX10_drive_57 : decode cX10_drive 57 = .ok (.iconst 4, 1) := by decide +kernel
theorem dX10_drive_58 : decode cX10_drive 58 = .ok (.iaload, 1) := by decide +kernel
theorem dX10_drive_59 : decode cX10_drive 59 = .ok (.bipush (-50), 2) := by decide +kernel
theorem dX10_drive_61 : decode cX10_drive 61 = .ok (.if_icmp .ge 5, 3) := by decide +kernel
theorem dX10_drive_64 : decode cX10_drive 64 = .ok (.iconst 3, 1) := by decide +kernel
theorem dX10_drive_65 : decode cX10_drive 65 = .ok (.ireturn, 1) := by decide +kernel
theorem dX10_drive_66 : decode cX10_drive 66 = .ok (.aload_n 0, 1) := by decide +kernel
theorem dX10_drive_67 : decode cX10_drive 67 = .ok (.getfield 45, 3) := by decide +kernel
theorem dX10_drive_70 : decode cX10_drive 70 = .ok (.aload_n 3, 1) := by decide +kernel
theorem dX10_drive_71 : decode cX10_drive 71 = .ok (.aload_n 0, 1) := by decide +kernel
theorem dX10_drive_72 : decode cX10_drive 72 = .ok (.getfield 7, 3) := by decide +kernel
theorem dX10_drive_75 : decode cX10_drive 75 = .ok (.iconst 1, 1) := by decide +kernel
theorem dX10_drive_76 : decode cX10_drive 76 = .ok (.iaload, 1) := by decide +kernel
theorem dX10_drive_77 : decode cX10_drive 77 = .ok (.aload_n 0, 1) := by decide +kernel
theorem dX10_drive_78 : decode cX10_drive 78 = .ok (.getfield 7, 3) := by decide +kernel
theorem dX10_drive_81 : decode cX10_drive 81 = .ok (.iconst 2, 1) := by decide +kernel
theorem dX10_drive_82 : decode cX10_drive 82 = .ok (.iaload, 1) := by decide +kernel
theorem dX10_drive_83 : decode cX10_drive 83 = .ok (.invokestatic 99, 3) := by decide +kernel
theorem dX10_drive_86 : decode cX10_drive 86 = .ok (.istore 4, 2) := by decide +kernel
theorem dX10_drive_88 : decode cX10_drive 88 = .ok (.aload_n 0, 1) := by decide +kernel
theorem dX10_drive_89 : decode cX10_drive 89 = .ok (.getfield 45, 3) := by decide +kernel
theorem dX10_drive_92 : decode cX10_drive 92 = .ok (.aload_n 0, 1) := by decide +kernel
theorem dX10_drive_93 : decode cX10_drive 93 = .ok (.getfield 7, 3) := by decide +kernel
theorem dX10_drive_96 : decode cX10_drive 96 = .ok (.iconst 1, 1) := by decide +kernel
theorem dX10_drive_97 : decode cX10_drive 97 = .ok (.iaload, 1) := by decide +kernel
theorem dX10_drive_98 : decode cX10_drive 98 = .ok (.aload_n 0, 1) := by decide +kernel
theorem dX10_drive_99 : decode cX10_drive 99 = .ok (.getfield 7, 3) := by decide +kernel
theorem dX10_drive_102 : decode cX10_drive 102 = .ok (.iconst 2, 1) := by decide +kernel
theorem dX10_drive_103 : decode cX10_drive 103 = .ok (.iaload, 1) := by decide +kernel
theorem dX10_drive_104 : decode cX10_drive 104 = .ok (.iload 4, 2) := by decide +kernel
theorem dX10_drive_106 : decode cX10_drive 106 = .ok (.invokestatic 103, 3) := by decide +kernel
theorem dX10_drive_109 : decode cX10_drive 109 = .ok (.istore 5, 2) := by decide +kernel
theorem dX10_drive_111 : decode cX10_drive 111 = .ok (.aload_n 0, 1) := by decide +kernel
theorem dX10_drive_112 : decode cX10_drive 112 = .ok (.iload 5, 2) := by decide +kernel
theorem dX10_drive_114 : decode cX10_drive 114 = .ok (.iconst 1, 1) := by decide +kernel
theorem dX10_drive_115 : decode cX10_drive 115 = .ok (.isub, 1) := by decide +kernel
theorem dX10_drive_116 : decode cX10_drive 116 = .ok (.iconst 0, 1) := by decide +kernel
theorem dX10_drive_117 : decode cX10_drive 117 = .ok (.invokevirtual 86, 3) := by decide +kernel
theorem dX10_drive_120 : decode cX10_drive 120 = .ok (.istore 6, 2) := by decide +kernel
theorem dX10_drive_122 : decode cX10_drive 122 = .ok (.iload 6, 2) := by decide +kernel
theorem dX10_drive_124 : decode cX10_drive 124 = .ok (.ifCond .ne 31, 3) := by decide +kernel
theorem dX10_drive_127 : decode cX10_drive 127 = .ok (.aload_n 0, 1) := by decide +kernel
theorem dX10_drive_128 : decode cX10_drive 128 = .ok (.aload_n 0, 1) := by decide +kernel
theorem dX10_drive_129 : decode cX10_drive 129 = .ok (.getfield 45, 3) := by decide +kernel
theorem dX10_drive_132 : decode cX10_drive 132 = .ok (.aload_n 0, 1) := by decide +kernel
theorem dX10_drive_133 : decode cX10_drive 133 = .ok (.getfield 7, 3) := by decide +kernel
theorem dX10_drive_136 : decode cX10_drive 136 = .ok (.iconst 1, 1) := by decide +kernel
theorem dX10_drive_137 : decode cX10_drive 137 = .ok (.iaload, 1) := by decide +kernel
theorem dX10_drive_138 : decode cX10_drive 138 = .ok (.aload_n 0, 1) := by decide +kernel
theorem dX10_drive_139 : decode cX10_drive 139 = .ok (.getfield 7, 3) := by decide +kernel
theorem dX10_drive_142 : decode cX10_drive 142 = .ok (.iconst 2, 1) := by decide +kernel
theorem dX10_drive_143 : decode cX10_drive 143 = .ok (.iaload, 1) := by decide +kernel
theorem dX10_drive_144 : decode cX10_drive 144 = .ok (.iload 4, 2) := by decide +kernel
theorem dX10_drive_146 : decode cX10_drive 146 = .ok (.invokestatic 107, 3) := by decide +kernel
theorem dX10_drive_149 : decode cX10_drive 149 = .ok (.iconst 1, 1) := by decide +kernel
theorem dX10_drive_150 : decode cX10_drive 150 = .ok (.invokevirtual 52, 3) := by decide +kernel
theorem dX10_drive_153 : decode cX10_drive 153 = .ok (.istore 6, 2) := by decide +kernel
theorem dX10_drive_155 : decode cX10_drive 155 = .ok (.iload 6, 2) := by decide +kernel
theorem dX10_drive_157 : decode cX10_drive 157 = .ok (.ifCond .le 6, 3) := by decide +kernel
theorem dX10_drive_160 : decode cX10_drive 160 = .ok (.iload 6, 2) := by decide +kernel
theorem dX10_drive_162 : decode cX10_drive 162 = .ok (.ireturn, 1) := by decide +kernel
theorem dX10_drive_163 : decode cX10_drive 163 = .ok (.aload_n 0, 1) := by decide +kernel
theorem dX10_drive_164 : decode cX10_drive 164 = .ok (.getfield 7, 3) := by decide +kernel
theorem dX10_drive_167 : decode cX10_drive 167 = .ok (.iconst 1, 1) := by decide +kernel
theorem dX10_drive_168 : decode cX10_drive 168 = .ok (.dup2, 1) := by decide +kernel
theorem dX10_drive_169 : decode cX10_drive 169 = .ok (.iaload, 1) := by decide +kernel
theorem dX10_drive_170 : decode cX10_drive 170 = .ok (.getstatic 62, 3) := by decide +kernel
theorem dX10_drive_173 : decode cX10_drive 173 = .ok (.iload 4, 2) := by decide +kernel
theorem dX10_drive_175 : decode cX10_drive 175 = .ok (.iaload, 1) := by decide +kernel
theorem dX10_drive_176 : decode cX10_drive 176 = .ok (.iadd, 1) := by decide +kernel
theorem dX10_drive_177 : decode cX10_drive 177 = .ok (.iastore, 1) := by decide +kernel
theorem dX10_drive_178 : decode cX10_drive 178 = .ok (.aload_n 0, 1) := by decide +kernel
theorem dX10_drive_179 : decode cX10_drive 179 = .ok (.getfield 7, 3) := by decide +kernel
theorem dX10_drive_182 : decode cX10_drive 182 = .ok (.iconst 2, 1) := by decide +kernel
theorem dX10_drive_183 : decode cX10_drive 183 = .ok (.dup2, 1) := by decide +kernel
theorem dX10_drive_184 : decode cX10_drive 184 = .ok (.iaload, 1) := by decide +kernel
theorem dX10_drive_185 : decode cX10_drive 185 = .ok (.getstatic 67, 3) := by decide +kernel
theorem dX10_drive_188 : decode cX10_drive 188 = .ok (.iload 4, 2) := by decide +kernel
theorem dX10_drive_190 : decode cX10_drive 190 = .ok (.iaload, 1) := by decide +kernel
theorem dX10_drive_191 : decode cX10_drive 191 = .ok (.iadd, 1) := by decide +kernel
theorem dX10_drive_192 : decode cX10_drive 192 = .ok (.iastore, 1) := by decide +kernel
theorem dX10_drive_193 : decode cX10_drive 193 = .ok (.goto (-160), 3) := by decide +kernel
theorem dX10_drive_196 : decode cX10_drive 196 = .ok (.iconst 0, 1) := by decide +kernel
theorem dX10_drive_197 : decode cX10_drive 197 = .ok (.ireturn, 1) := by decide +kernel
theorem dX10_rest_0 : decode cX10_rest 0 = .ok (.aload_n 0, 1) := by decide +kernel
theorem dX10_rest_1 : decode cX10_rest 1 = .ok (.iconst 0, 1) := by decide +kernel
theorem dX10_rest_2 : decode cX10_rest 2 = .ok (.iload_n 2, 1) := by decide +kernel
theorem dX10_rest_3 : decode cX10_rest 3 = .ok (.invokevirtual 52, 3) := by decide +kernel
theorem dX10_rest_6 : decode cX10_rest 6 = .ok (.istore_n 3, 1) := by decide +kernel
theorem dX10_rest_7 : decode cX10_rest 7 = .ok (.iload_n 3, 1) := by decide +kernel
theorem dX10_rest_8 : decode cX10_rest 8 = .ok (.ifCond .ne 17, 3) := by decide +kernel
theorem dX10_rest_11 : decode cX10_rest 11 = .ok (.aload_n 0, 1) := by decide +kernel
theorem dX10_rest_12 : decode cX10_rest 12 = .ok (.getfield 7, 3) := by decide +kernel
theorem dX10_rest_15 : decode cX10_rest 15 = .ok (.iconst 0, 1) := by decide +kernel
theorem dX10_rest_16 : decode cX10_rest 16 = .ok (.iaload, 1) := by decide +kernel
theorem dX10_rest_17 : decode cX10_rest 17 = .ok (.sipush 1440, 3) := by decide +kernel
theorem dX10_rest_20 : decode cX10_rest 20 = .ok (.irem, 1) := by decide +kernel
theorem dX10_rest_21 : decode cX10_rest 21 = .ok (.iload_n 1, 1) := by decide +kernel
theorem dX10_rest_22 : decode cX10_rest 22 = .ok (.if_icmp .ne (-22), 3) := by decide +kernel
theorem dX10_rest_25 : decode cX10_rest 25 = .ok (.iload_n 3, 1) := by decide +kernel
theorem dX10_rest_26 : decode cX10_rest 26 = .ok (.ireturn, 1) := by decide +kernel
theorem dX10_act_0 : decode cX10_act 0 = .ok (.iload_n 1, 1) := by decide +kernel
theorem dX10_act_1 : decode cX10_act 1 = .ok (.tableswitch 95 0 6 #[43, 50, 58, 66, 72, 79, 86], 43) := by decide +kernel
theorem dX10_act_44 : decode cX10_act 44 = .ok (.aload_n 0, 1) := by decide +kernel
theorem dX10_act_45 : decode cX10_act 45 = .ok (.iload_n 2, 1) := by decide +kernel
theorem dX10_act_46 : decode cX10_act 46 = .ok (.iload_n 3, 1) := by decide +kernel
theorem dX10_act_47 : decode cX10_act 47 = .ok (.invokevirtual 110, 3) := by decide +kernel
theorem dX10_act_50 : decode cX10_act 50 = .ok (.ireturn, 1) := by decide +kernel
theorem dX10_act_51 : decode cX10_act 51 = .ok (.aload_n 0, 1) := by decide +kernel
theorem dX10_act_52 : decode cX10_act 52 = .ok (.iconst 0, 1) := by decide +kernel
theorem dX10_act_53 : decode cX10_act 53 = .ok (.iload_n 2, 1) := by decide +kernel
theorem dX10_act_54 : decode cX10_act 54 = .ok (.iload_n 3, 1) := by decide +kernel
theorem dX10_act_55 : decode cX10_act 55 = .ok (.invokevirtual 113, 3) := by decide +kernel
theorem dX10_act_58 : decode cX10_act 58 = .ok (.ireturn, 1) := by decide +kernel
theorem dX10_act_59 : decode cX10_act 59 = .ok (.aload_n 0, 1) := by decide +kernel
theorem dX10_act_60 : decode cX10_act 60 = .ok (.iconst 1, 1) := by decide +kernel
theorem dX10_act_61 : decode cX10_act 61 = .ok (.iload_n 2, 1) := by decide +kernel
theorem dX10_act_62 : decode cX10_act 62 = .ok (.iload_n 3, 1) := by decide +kernel
theorem dX10_act_63 : decode cX10_act 63 = .ok (.invokevirtual 113, 3) := by decide +kernel
theorem dX10_act_66 : decode cX10_act 66 = .ok (.ireturn, 1) := by decide +kernel
theorem dX10_act_67 : decode cX10_act 67 = .ok (.aload_n 0, 1) := by decide +kernel
theorem dX10_act_68 : decode cX10_act 68 = .ok (.iload_n 2, 1) := by decide +kernel
theorem dX10_act_69 : decode cX10_act 69 = .ok (.invokevirtual 117, 3) := by decide +kernel
theorem dX10_act_72 : decode cX10_act 72 = .ok (.ireturn, 1) := by decide +kernel
theorem dX10_act_73 : decode cX10_act 73 = .ok (.aload_n 0, 1) := by decide +kernel
theorem dX10_act_74 : decode cX10_act 74 = .ok (.iload_n 2, 1) := by decide +kernel
theorem dX10_act_75 : decode cX10_act 75 = .ok (.iconst 1, 1) := by decide +kernel
theorem dX10_act_76 : decode cX10_act 76 = .ok (.invokevirtual 120, 3) := by decide +kernel
theorem dX10_act_79 : decode cX10_act 79 = .ok (.ireturn, 1) := by decide +kernel
theorem dX10_act_80 : decode cX10_act 80 = .ok (.aload_n 0, 1) := by decide +kernel
theorem dX10_act_81 : decode cX10_act 81 = .ok (.iload_n 2, 1) := by decide +kernel
theorem dX10_act_82 : decode cX10_act 82 = .ok (.iconst 0, 1) := by decide +kernel
theorem dX10_act_83 : decode cX10_act 83 = .ok (.invokevirtual 120, 3) := by decide +kernel
theorem dX10_act_86 : decode cX10_act 86 = .ok (.ireturn, 1) := by decide +kernel
theorem dX10_act_87 : decode cX10_act 87 = .ok (.aload_n 0, 1) := by decide +kernel
theorem dX10_act_88 : decode cX10_act 88 = .ok (.getfield 7, 3) := by decide +kernel
theorem dX10_act_91 : decode cX10_act 91 = .ok (.iconst 5, 1) := by decide +kernel
theorem dX10_act_92 : decode cX10_act 92 = .ok (.iload_n 2, 1) := by decide +kernel
theorem dX10_act_93 : decode cX10_act 93 = .ok (.iastore, 1) := by decide +kernel
theorem dX10_act_94 : decode cX10_act 94 = .ok (.iconst 0, 1) := by decide +kernel
theorem dX10_act_95 : decode cX10_act 95 = .ok (.ireturn, 1) := by decide +kernel
theorem dX10_act_96 : decode cX10_act 96 = .ok (.aload_n 0, 1) := by decide +kernel
theorem dX10_act_97 : decode cX10_act 97 = .ok (.bipush 15, 2) := by decide +kernel
theorem dX10_act_99 : decode cX10_act 99 = .ok (.bipush 6, 2) := by decide +kernel
theorem dX10_act_101 : decode cX10_act 101 = .ok (.invokevirtual 86, 3) := by decide +kernel
theorem dX10_act_104 : decode cX10_act 104 = .ok (.istore 4, 2) := by decide +kernel
theorem dX10_act_106 : decode cX10_act 106 = .ok (.aload_n 0, 1) := by decide +kernel
theorem dX10_act_107 : decode cX10_act 107 = .ok (.getfield 7, 3) := by decide +kernel
theorem dX10_act_110 : decode cX10_act 110 = .ok (.bipush 6, 2) := by decide +kernel
theorem dX10_act_112 : decode cX10_act 112 = .ok (.aload_n 0, 1) := by decide +kernel
theorem dX10_act_113 : decode cX10_act 113 = .ok (.getfield 7, 3) := by decide +kernel
theorem dX10_act_116 : decode cX10_act 116 = .ok (.bipush 6, 2) := by decide +kernel
theorem dX10_act_118 : decode cX10_act 118 = .ok (.iaload, 1) := by decide +kernel
theorem dX10_act_119 : decode cX10_act 119 = .ok (.bipush 90, 2) := by decide +kernel
theorem dX10_act_121 : decode cX10_act 121 = .ok (.if_icmp .le 8, 3) := by decide +kernel
theorem dX10_act_124 : decode cX10_act 124 = .ok (.bipush 100, 2) := by decide +kernel
theorem dX10_act_126 : decode cX10_act 126 = .ok (.goto 13, 3) := by decide +kernel
theorem dX10_act_129 : decode cX10_act 129 = .ok (.aload_n 0, 1) := by decide +kernel
theorem dX10_act_130 : decode cX10_act 130 = .ok (.getfield 7, 3) := by decide +kernel
theorem dX10_act_133 : decode cX10_act 133 = .ok (.bipush 6, 2) := by decide +kernel
theorem dX10_act_135 : decode cX10_act 135 = .ok (.iaload, 1) := by decide +kernel
theorem dX10_act_136 : decode cX10_act 136 = .ok (.bipush 10, 2) := by decide +kernel
theorem dX10_act_138 : decode cX10_act 138 = .ok (.iadd, 1) := by decide +kernel
theorem dX10_act_139 : decode cX10_act 139 = .ok (.iastore, 1) := by decide +kernel
theorem dX10_act_140 : decode cX10_act 140 = .ok (.iload 4, 2) := by decide +kernel
theorem dX10_act_142 : decode cX10_act 142 = .ok (.ireturn, 1) := by decide +kernel
theorem dX10_told_0 : decode cX10_told 0 = .ok (.iload_n 1, 1) := by decide +kernel
theorem dX10_told_1 : decode cX10_told 1 = .ok (.bipush 7, 2) := by decide +kernel
theorem dX10_told_3 : decode cX10_told 3 = .ok (.if_icmp .ge 12, 3) := by decide +kernel
theorem dX10_told_6 : decode cX10_told 6 = .ok (.aload_n 0, 1) := by decide +kernel
theorem dX10_told_7 : decode cX10_told 7 = .ok (.getfield 7, 3) := by decide +kernel
theorem dX10_told_10 : decode cX10_told 10 = .ok (.iload_n 1, 1) := by decide +kernel
theorem dX10_told_11 : decode cX10_told 11 = .ok (.iaload, 1) := by decide +kernel
theorem dX10_told_12 : decode cX10_told 12 = .ok (.goto 37, 3) := by decide +kernel
theorem dX10_told_15 : decode cX10_told 15 = .ok (.iload_n 1, 1) := by decide +kernel
theorem dX10_told_16 : decode cX10_told 16 = .ok (.bipush 7, 2) := by decide +kernel
theorem dX10_told_18 : decode cX10_told 18 = .ok (.if_icmp .ne 10, 3) := by decide +kernel
theorem dX10_told_21 : decode cX10_told 21 = .ok (.aload_n 0, 1) := by decide +kernel
theorem dX10_told_22 : decode cX10_told 22 = .ok (.invokevirtual 83, 3) := by decide +kernel
theorem dX10_told_25 : decode cX10_told 25 = .ok (.goto 24, 3) := by decide +kernel
theorem dX10_told_28 : decode cX10_told 28 = .ok (.iload_n 1, 1) := by decide +kernel
theorem dX10_told_29 : decode cX10_told 29 = .ok (.bipush 8, 2) := by decide +kernel
theorem dX10_told_31 : decode cX10_told 31 = .ok (.if_icmp .ne 11, 3) := by decide +kernel
theorem dX10_told_34 : decode cX10_told 34 = .ok (.aload_n 0, 1) := by decide +kernel
theorem dX10_told_35 : decode cX10_told 35 = .ok (.getfield 14, 3) := by decide +kernel
theorem dX10_told_38 : decode cX10_told 38 = .ok (.arraylength, 1) := by decide +kernel
theorem dX10_told_39 : decode cX10_told 39 = .ok (.goto 10, 3) := by decide +kernel
theorem dX10_told_42 : decode cX10_told 42 = .ok (.aload_n 0, 1) := by decide +kernel
theorem dX10_told_43 : decode cX10_told 43 = .ok (.getfield 7, 3) := by decide +kernel
theorem dX10_told_46 : decode cX10_told 46 = .ok (.bipush 7, 2) := by decide +kernel
theorem dX10_told_48 : decode cX10_told 48 = .ok (.iaload, 1) := by decide +kernel
theorem dX10_told_49 : decode cX10_told 49 = .ok (.ireturn, 1) := by decide +kernel
theorem dX10_isSame_0 : decode cX10_isSame 0 = .ok (.iconst 0, 1) := by decide +kernel
theorem dX10_isSame_1 : decode cX10_isSame 1 = .ok (.istore_n 2, 1) := by decide +kernel
theorem dX10_isSame_2 : decode cX10_isSame 2 = .ok (.iload_n 2, 1) := by decide +kernel
theorem dX10_isSame_3 : decode cX10_isSame 3 = .ok (.bipush 10, 2) := by decide +kernel
theorem dX10_isSame_5 : decode cX10_isSame 5 = .ok (.if_icmp .ge 24, 3) := by decide +kernel
theorem dX10_isSame_8 : decode cX10_isSame 8 = .ok (.aload_n 1, 1) := by decide +kernel
theorem dX10_isSame_9 : decode cX10_isSame 9 = .ok (.iload_n 2, 1) := by decide +kernel
theorem dX10_isSame_10 : decode cX10_isSame 10 = .ok (.invokevirtual 123, 3) := by decide +kernel
theorem dX10_isSame_13 : decode cX10_isSame 13 = .ok (.aload_n 0, 1) := by decide +kernel
theorem dX10_isSame_14 : decode cX10_isSame 14 = .ok (.iload_n 2, 1) := by decide +kernel
theorem dX10_isSame_15 : decode cX10_isSame 15 = .ok (.invokevirtual 128, 3) := by decide +kernel
theorem dX10_isSame_18 : decode cX10_isSame 18 = .ok (.if_icmp .eq 5, 3) := by decide +kernel
theorem dX10_isSame_21 : decode cX10_isSame 21 = .ok (.iconst 0, 1) := by decide +kernel
theorem dX10_isSame_22 : decode cX10_isSame 22 = .ok (.ireturn, 1) := by decide +kernel
theorem dX10_isSame_23 : decode cX10_isSame 23 = .ok (.iinc 2 1, 3) := by decide +kernel
theorem dX10_isSame_26 : decode cX10_isSame 26 = .ok (.goto (-24), 3) := by decide +kernel
theorem dX10_isSame_29 : decode cX10_isSame 29 = .ok (.iconst 0, 1) := by decide +kernel
theorem dX10_isSame_30 : decode cX10_isSame 30 = .ok (.istore_n 2, 1) := by decide +kernel
theorem dX10_isSame_31 : decode cX10_isSame 31 = .ok (.iload_n 2, 1) := by decide +kernel
theorem dX10_isSame_32 : decode cX10_isSame 32 = .ok (.aload_n 0, 1) := by decide +kernel
theorem dX10_isSame_33 : decode cX10_isSame 33 = .ok (.getfield 14, 3) := by decide +kernel
theorem dX10_isSame_36 : decode cX10_isSame 36 = .ok (.arraylength, 1) := by decide +kernel
theorem dX10_isSame_37 : decode cX10_isSame 37 = .ok (.if_icmp .ge 41, 3) := by decide +kernel
theorem dX10_isSame_40 : decode cX10_isSame 40 = .ok (.iconst 0, 1) := by decide +kernel
theorem dX10_isSame_41 : decode cX10_isSame 41 = .ok (.istore_n 3, 1) := by decide +kernel
theorem dX10_isSame_42 : decode cX10_isSame 42 = .ok (.iload_n 3, 1) := by decide +kernel
theorem dX10_isSame_43 : decode cX10_isSame 43 = .ok (.iconst 4, 1) := by decide +kernel
theorem dX10_isSame_44 : decode cX10_isSame 44 = .ok (.if_icmp .ge 28, 3) := by decide +kernel
theorem dX10_isSame_47 : decode cX10_isSame 47 = .ok (.aload_n 1, 1) := by decide +kernel
theorem dX10_isSame_48 : decode cX10_isSame 48 = .ok (.iload_n 2, 1) := by decide +kernel
theorem dX10_isSame_49 : decode cX10_isSame 49 = .ok (.iload_n 3, 1) := by decide +kernel
theorem dX10_isSame_50 : decode cX10_isSame 50 = .ok (.invokevirtual 131, 3) := by decide +kernel
theorem dX10_isSame_53 : decode cX10_isSame 53 = .ok (.aload_n 0, 1) := by decide +kernel
theorem dX10_isSame_54 : decode cX10_isSame 54 = .ok (.getfield 14, 3) := by decide +kernel
theorem dX10_isSame_57 : decode cX10_isSame 57 = .ok (.iload_n 2, 1) := by decide +kernel
theorem dX10_isSame_58 : decode cX10_isSame 58 = .ok (.aaload, 1) := by decide +kernel
theorem dX10_isSame_59 : decode cX10_isSame 59 = .ok (.iload_n 3, 1) := by decide +kernel
theorem dX10_isSame_60 : decode cX10_isSame 60 = .ok (.iaload, 1) := by decide +kernel
theorem dX10_isSame_61 : decode cX10_isSame 61 = .ok (.if_icmp .eq 5, 3) := by decide +kernel
theorem dX10_isSame_64 : decode cX10_isSame 64 = .ok (.iconst 0, 1) := by decide +kernel
theorem dX10_isSame_65 : decode cX10_isSame 65 = .ok (.ireturn, 1) := by decide +kernel
theorem dX10_isSame_66 : decode cX10_isSame 66 = .ok (.iinc 3 1, 3) := by decide +kernel
theorem dX10_isSame_69 : decode cX10_isSame 69 = .ok (.goto (-27), 3) := by decide +kernel
theorem dX10_isSame_72 : decode cX10_isSame 72 = .ok (.iinc 2 1, 3) := by decide +kernel
theorem dX10_isSame_75 : decode cX10_isSame 75 = .ok (.goto (-44), 3) := by decide +kernel
theorem dX10_isSame_78 : decode cX10_isSame 78 = .ok (.iconst 0, 1) := by decide +kernel
theorem dX10_isSame_79 : decode cX10_isSame 79 = .ok (.istore_n 2, 1) := by decide +kernel
theorem dX10_isSame_80 : decode cX10_isSame 80 = .ok (.iload_n 2, 1) := by decide +kernel
theorem dX10_isSame_81 : decode cX10_isSame 81 = .ok (.bipush 12, 2) := by decide +kernel
theorem dX10_isSame_83 : decode cX10_isSame 83 = .ok (.if_icmp .ge 139, 3) := by decide +kernel
theorem dX10_isSame_86 : decode cX10_isSame 86 = .ok (.aload_n 0, 1) := by decide +kernel
theorem dX10_isSame_87 : decode cX10_isSame 87 = .ok (.getfield 32, 3) := by decide +kernel
theorem dX10_isSame_90 : decode cX10_isSame 90 = .ok (.iload_n 2, 1) := by decide +kernel
theorem dX10_isSame_91 : decode cX10_isSame 91 = .ok (.aaload, 1) := by decide +kernel
theorem dX10_isSame_92 : decode cX10_isSame 92 = .ok (.ifnull 130, 3) := by decide +kernel
theorem dX10_isSame_95 : decode cX10_isSame 95 = .ok (.aload_n 0, 1) := by decide +kernel
theorem dX10_isSame_96 : decode cX10_isSame 96 = .ok (.getfield 18, 3) := by decide +kernel
theorem dX10_isSame_99 : decode cX10_isSame 99 = .ok (.iload_n 2, 1) := by decide +kernel
theorem dX10_isSame_100 : decode cX10_isSame 100 = .ok (.iaload, 1) := by decide +kernel
theorem dX10_isSame_101 : decode cX10_isSame 101 = .ok (.invokestatic 134, 3) := by decide +kernel
theorem dX10_isSame_104 : decode cX10_isSame 104 = .ok (.istore_n 3, 1) := by decide +kernel
theorem dX10_isSame_105 : decode cX10_isSame 105 = .ok (.aload_n 0, 1) := by decide +kernel
theorem dX10_isSame_106 : decode cX10_isSame 106 = .ok (.getfield 32, 3) := by decide +kernel
theorem dX10_isSame_109 : decode cX10_isSame 109 = .ok (.iload_n 2, 1) := by decide +kernel
theorem dX10_isSame_110 : decode cX10_isSame 110 = .ok (.aaload, 1) := by decide +kernel
theorem dX10_isSame_111 : decode cX10_isSame 111 = .ok (.iconst 3, 1) := by decide +kernel
theorem dX10_isSame_112 : decode cX10_isSame 112 = .ok (.iaload, 1) := by decide +kernel
theorem dX10_isSame_113 : decode cX10_isSame 113 = .ok (.iconst 4, 1) := by decide +kernel
theorem dX10_isSame_114 : decode cX10_isSame 114 = .ok (.if_icmp .ne 12, 3) := by decide +kernel
theorem dX10_isSame_117 : decode cX10_isSame 117 = .ok (.aload_n 0, 1) := by decide +kernel
theorem dX10_isSame_118 : decode cX10_isSame 118 = .ok (.getfield 21, 3) := by decide +kernel
theorem dX10_isSame_121 : decode cX10_isSame 121 = .ok (.iload_n 2, 1) := by decide +kernel
theorem dX10_isSame_122 : decode cX10_isSame 122 = .ok (.baload, 1) := by decide +kernel
theorem dX10_isSame_123 : decode cX10_isSame 123 = .ok (.goto 20, 3) := by decide +kernel
theorem dX10_isSame_126 : decode cX10_isSame 126 = .ok (.iload_n 3, 1) := by decide +kernel
theorem dX10_isSame_127 : decode cX10_isSame 127 = .ok (.aload_n 0, 1) := by decide +kernel
theorem dX10_isSame_128 : decode cX10_isSame 128 = .ok (.getfield 32, 3) := by decide +kernel
theorem dX10_isSame_131 : decode cX10_isSame 131 = .ok (.iload_n 2, 1) := by decide +kernel
theorem dX10_isSame_132 : decode cX10_isSame 132 = .ok (.aaload, 1) := by decide +kernel
theorem dX10_isSame_133 : decode cX10_isSame 133 = .ok (.iconst 3, 1) := by decide +kernel
theorem dX10_isSame_134 : decode cX10_isSame 134 = .ok (.iaload, 1) := by decide +kernel
theorem dX10_isSame_135 : decode cX10_isSame 135 = .ok (.if_icmp .lt 7, 3) := by decide +kernel
theorem dX10_isSame_138 : decode cX10_isSame 138 = .ok (.iconst 1, 1) := by decide +kernel
theorem dX10_isSame_139 : decode cX10_isSame 139 = .ok (.goto 4, 3) := by decide +kernel
theorem dX10_isSame_142 : decode cX10_isSame 142 = .ok (.iconst 0, 1) := by decide +kernel
theorem dX10_isSame_143 : decode cX10_isSame 143 = .ok (.istore 4, 2) := by decide +kernel
theorem dX10_isSame_145 : decode cX10_isSame 145 = .ok (.aload_n 1, 1) := by decide +kernel
theorem dX10_isSame_146 : decode cX10_isSame 146 = .ok (.iload_n 2, 1) := by decide +kernel
theorem dX10_isSame_147 : decode cX10_isSame 147 = .ok (.iconst 2, 1) := by decide +kernel
theorem dX10_isSame_148 : decode cX10_isSame 148 = .ok (.invokevirtual 137, 3) := by decide +kernel
theorem dX10_isSame_151 : decode cX10_isSame 151 = .ok (.iload_n 3, 1) := by decide +kernel
theorem dX10_isSame_152 : decode cX10_isSame 152 = .ok (.if_icmp .ne 62, 3) := by decide +kernel
theorem dX10_isSame_155 : decode cX10_isSame 155 = .ok (.aload_n 1, 1) := by decide +kernel
theorem dX10_isSame_156 : decode cX10_isSame 156 = .ok (.iload_n 2, 1) := by decide +kernel
theorem dX10_isSame_157 : decode cX10_isSame 157 = .ok (.iconst 3, 1) := by decide +kernel
theorem dX10_isSame_158 : decode cX10_isSame 158 = .ok (.invokevirtual 137, 3) := by decide +kernel
theorem dX10_isSame_161 : decode cX10_isSame 161 = .ok (.aload_n 0, 1) := by decide +kernel
theorem dX10_isSame_162 : decode cX10_isSame 162 = .ok (.iload_n 2, 1) := by decide +kernel
theorem dX10_isSame_163 : decode cX10_isSame 163 = .ok (.invokevirtual 140, 3) := by decide +kernel
theorem dX10_isSame_166 : decode cX10_isSame 166 = .ok (.invokestatic 134, 3) := by decide +kernel
theorem dX10_isSame_169 : decode cX10_isSame 169 = .ok (.if_icmp .ne 45, 3) := by decide +kernel
theorem dX10_isSame_172 : decode cX10_isSame 172 = .ok (.aload_n 1, 1) := by decide +kernel
theorem dX10_isSame_173 : decode cX10_isSame 173 = .ok (.iload_n 2, 1) := by decide +kernel
theorem dX10_isSame_174 : decode cX10_isSame 174 = .ok (.iconst 4, 1) := by decide +kernel
theorem dX10_isSame_175 : decode cX10_isSame 175 = .ok (.invokevirtual 137, 3) := by decide +kernel
theorem dX10_isSame_178 : decode cX10_isSame 178 = .ok (.aload_n 0, 1) := by decide +kernel
theorem dX10_isSame_179 : decode cX10_isSame 179 = .ok (.getfield 21, 3) := by decide +kernel
theorem dX10_isSame_182 : decode cX10_isSame 182 = .ok (.iload_n 2, 1) := by decide +kernel
theorem dX10_isSame_183 : decode cX10_isSame 183 = .ok (.baload, 1) := by decide +kernel
theorem dX10_isSame_184 : decode cX10_isSame 184 = .ok (.ifCond .eq 7, 3) := by decide +kernel
theorem dX10_isSame_187 : decode cX10_isSame 187 = .ok (.iconst 1, 1) := by decide +kernel
theorem dX10_isSame_188 : decode cX10_isSame 188 = .ok (.goto 4, 3) := by decide +kernel
theorem dX10_isSame_191 : decode cX10_isSame 191 = .ok (.iconst 0, 1) := by decide +kernel
theorem dX10_isSame_192 : decode cX10_isSame 192 = .ok (.if_icmp .ne 22, 3) := by decide +kernel
theorem dX10_isSame_195 : decode cX10_isSame 195 = .ok (.aload_n 1, 1) := by decide +kernel
theorem dX10_isSame_196 : decode cX10_isSame 196 = .ok (.iload_n 2, 1) := by decide +kernel
theorem dX10_isSame_197 : decode cX10_isSame 197 = .ok (.iconst 5, 1) := by decide +kernel
theorem dX10_isSame_198 : decode cX10_isSame 198 = .ok (.invokevirtual 137, 3) := by decide +kernel
theorem dX10_isSame_201 : decode cX10_isSame 201 = .ok (.iload 4, 2) := by decide +kernel
theorem dX10_isSame_203 : decode cX10_isSame 203 = .ok (.ifCond .eq 7, 3) := by decide +kernel
theorem dX10_isSame_206 : decode cX10_isSame 206 = .ok (.iconst 1, 1) := by decide +kernel
theorem dX10_isSame_207 : decode cX10_isSame 207 = .ok (.goto 4, 3) := by decide +kernel
theorem dX10_isSame_210 : decode cX10_isSame 210 = .ok (.iconst 0, 1) := by decide +kernel
theorem dX10_isSame_211 : decode cX10_isSame 211 = .ok (.if_icmp .eq 5, 3) := by decide +kernel
theorem dX10_isSame_214 : decode cX10_isSame 214 = .ok (.iconst 0, 1) := by decide +kernel
theorem dX10_isSame_215 : decode cX10_isSame 215 = .ok (.ireturn, 1) := by decide +kernel
theorem dX10_isSame_216 : decode cX10_isSame 216 = .ok (.iinc 2 1, 3) := by decide +kernel
theorem dX10_isSame_219 : decode cX10_isSame 219 = .ok (.goto (-139), 3) := by decide +kernel
theorem dX10_isSame_222 : decode cX10_isSame 222 = .ok (.aload_n 1, 1) := by decide +kernel
theorem dX10_isSame_223 : decode cX10_isSame 223 = .ok (.invokevirtual 143, 3) := by decide +kernel
theorem dX10_isSame_226 : decode cX10_isSame 226 = .ok (.aload_n 0, 1) := by decide +kernel
theorem dX10_isSame_227 : decode cX10_isSame 227 = .ok (.getfield 42, 3) := by decide +kernel
theorem dX10_isSame_230 : decode cX10_isSame 230 = .ok (.ifCond .ne 7, 3) := by decide +kernel
theorem dX10_isSame_233 : decode cX10_isSame 233 = .ok (.dconst 1, 1) := by decide +kernel
theorem dX10_isSame_234 : decode cX10_isSame 234 = .ok (.goto 17, 3) := by decide +kernel
theorem dX10_isSame_237 : decode cX10_isSame 237 = .ok (.aload_n 0, 1) := by decide +kernel
theorem dX10_isSame_238 : decode cX10_isSame 238 = .ok (.getfield 7, 3) := by decide +kernel
theorem dX10_isSame_241 : decode cX10_isSame 241 = .ok (.bipush 7, 2) := by decide +kernel
theorem dX10_isSame_243 : decode cX10_isSame 243 = .ok (.iaload, 1) := by decide +kernel
theorem dX10_isSame_244 : decode cX10_isSame 244 = .ok (.i2d, 1) := by decide +kernel
theorem dX10_isSame_245 : decode cX10_isSame 245 = .ok (.aload_n 0, 1) := by decide +kernel
theorem dX10_isSame_246 : decode cX10_isSame 246 = .ok (.getfield 42, 3) := by decide +kernel
theorem dX10_isSame_249 : decode cX10_isSame 249 = .ok (.i2d, 1) := by decide +kernel
theorem dX10_isSame_250 : decode cX10_isSame 250 = .ok (.ddiv, 1) := by decide +kernel
theorem dX10_isSame_251 : decode cX10_isSame 251 = .ok (.dcmp .l, 1) := by decide +kernel
theorem dX10_isSame_252 : decode cX10_isSame 252 = .ok (.ifCond .ne 7, 3) := by decide +kernel
theorem dX10_isSame_255 : decode cX10_isSame 255 = .ok (.iconst 1, 1) := by decide +kernel
theorem dX10_isSame_256 : decode cX10_isSame 256 = .ok (.goto 4, 3) := by decide +kernel
theorem dX10_isSame_259 : decode cX10_isSame 259 = .ok (.iconst 0, 1) := by decide +kernel
theorem dX10_isSame_260 : decode cX10_isSame 260 = .ok (.ireturn, 1) := by decide +kernel
theorem dJ6_compare_7cf53_0 : decode cJ6_compare_7cf53 0 = .ok (.iload_n 0, 1) := by decide +kernel
theorem dJ6_compare_7cf53_1 : decode cJ6_compare_7cf53 1 = .ok (.iload_n 1, 1) := by decide +kernel
theorem dJ6_compare_7cf53_2 : decode cJ6_compare_7cf53 2 = .ok (.if_icmp .ge 7, 3) := by decide +kernel
theorem dJ6_compare_7cf53_5 : decode cJ6_compare_7cf53 5 = .ok (.iconst (-1), 1) := by decide +kernel
theorem dJ6_compare_7cf53_6 : decode cJ6_compare_7cf53 6 = .ok (.goto 13, 3) := by decide +kernel
theorem dJ6_compare_7cf53_9 : decode cJ6_compare_7cf53 9 = .ok (.iload_n 0, 1) := by decide +kernel
theorem dJ6_compare_7cf53_10 : decode cJ6_compare_7cf53 10 = .ok (.iload_n 1, 1) := by decide +kernel
theorem dJ6_compare_7cf53_11 : decode cJ6_compare_7cf53 11 = .ok (.if_icmp .ne 7, 3) := by decide +kernel
theorem dJ6_compare_7cf53_14 : decode cJ6_compare_7cf53 14 = .ok (.iconst 0, 1) := by decide +kernel
theorem dJ6_compare_7cf53_15 : decode cJ6_compare_7cf53 15 = .ok (.goto 4, 3) := by decide +kernel
theorem dJ6_compare_7cf53_18 : decode cJ6_compare_7cf53 18 = .ok (.iconst 1, 1) := by decide +kernel
theorem dJ6_compare_7cf53_19 : decode cJ6_compare_7cf53 19 = .ok (.ireturn, 1) := by decide +kernel
theorem dJ6_bitCount_0f7a4_0 : decode cJ6_bitCount_0f7a4 0 = .ok (.iload_n 0, 1) := by decide +kernel
theorem dJ6_bitCount_0f7a4_1 : decode cJ6_bitCount_0f7a4 1 = .ok (.iload_n 0, 1) := by decide +kernel
theorem dJ6_bitCount_0f7a4_2 : decode cJ6_bitCount_0f7a4 2 = .ok (.iconst 1, 1) := by decide +kernel
theorem dJ6_bitCount_0f7a4_3 : decode cJ6_bitCount_0f7a4 3 = .ok (.iushr, 1) := by decide +kernel
theorem dJ6_bitCount_0f7a4_4 : decode cJ6_bitCount_0f7a4 4 = .ok (.ldc_w 265, 3) := by decide +kernel
theorem dJ6_bitCount_0f7a4_7 : decode cJ6_bitCount_0f7a4 7 = .ok (.iand, 1) := by decide +kernel
theorem dJ6_bitCount_0f7a4_8 : decode cJ6_bitCount_0f7a4 8 = .ok (.isub, 1) := by decide +kernel
theorem dJ6_bitCount_0f7a4_9 : decode cJ6_bitCount_0f7a4 9 = .ok (.istore_n 0, 1) := by decide +kernel
theorem dJ6_bitCount_0f7a4_10 : decode cJ6_bitCount_0f7a4 10 = .ok (.iload_n 0, 1) := by decide +kernel
theorem dJ6_bitCount_0f7a4_11 : decode cJ6_bitCount_0f7a4 11 = .ok (.ldc_w 266, 3) := by decide +kernel
theorem dJ6_bitCount_0f7a4_14 : decode cJ6_bitCount_0f7a4 14 = .ok (.iand, 1) := by decide +kernel
theorem dJ6_bitCount_0f7a4_15 : decode cJ6_bitCount_0f7a4 15 = .ok (.iload_n 0, 1) := by decide +kernel
theorem dJ6_bitCount_0f7a4_16 : decode cJ6_bitCount_0f7a4 16 = .ok (.iconst 2, 1) := by decide +kernel
theorem dJ6_bitCount_0f7a4_17 : decode cJ6_bitCount_0f7a4 17 = .ok (.iushr, 1) := by decide +kernel
theorem dJ6_bitCount_0f7a4_18 : decode cJ6_bitCount_0f7a4 18 = .ok (.ldc_w 266, 3) := by decide +kernel
theorem dJ6_bitCount_0f7a4_21 : decode cJ6_bitCount_0f7a4 21 = .ok (.iand, 1) := by decide +kernel
theorem dJ6_bitCount_0f7a4_22 : decode cJ6_bitCount_0f7a4 22 = .ok (.iadd, 1) := by decide +kernel
theorem dJ6_bitCount_0f7a4_23 : decode cJ6_bitCount_0f7a4 23 = .ok (.istore_n 0, 1) := by decide +kernel
theorem dJ6_bitCount_0f7a4_24 : decode cJ6_bitCount_0f7a4 24 = .ok (.iload_n 0, 1) := by decide +kernel
theorem dJ6_bitCount_0f7a4_25 : decode cJ6_bitCount_0f7a4 25 = .ok (.iload_n 0, 1) := by decide +kernel
theorem dJ6_bitCount_0f7a4_26 : decode cJ6_bitCount_0f7a4 26 = .ok (.iconst 4, 1) := by decide +kernel
theorem dJ6_bitCount_0f7a4_27 : decode cJ6_bitCount_0f7a4 27 = .ok (.iushr, 1) := by decide +kernel
theorem dJ6_bitCount_0f7a4_28 : decode cJ6_bitCount_0f7a4 28 = .ok (.iadd, 1) := by decide +kernel
theorem dJ6_bitCount_0f7a4_29 : decode cJ6_bitCount_0f7a4 29 = .ok (.ldc_w 267, 3) := by decide +kernel
theorem dJ6_bitCount_0f7a4_32 : decode cJ6_bitCount_0f7a4 32 = .ok (.iand, 1) := by decide +kernel
theorem dJ6_bitCount_0f7a4_33 : decode cJ6_bitCount_0f7a4 33 = .ok (.istore_n 0, 1) := by decide +kernel
theorem dJ6_bitCount_0f7a4_34 : decode cJ6_bitCount_0f7a4 34 = .ok (.iload_n 0, 1) := by decide +kernel
theorem dJ6_bitCount_0f7a4_35 : decode cJ6_bitCount_0f7a4 35 = .ok (.iload_n 0, 1) := by decide +kernel
theorem dJ6_bitCount_0f7a4_36 : decode cJ6_bitCount_0f7a4 36 = .ok (.bipush 8, 2) := by decide +kernel
theorem dJ6_bitCount_0f7a4_38 : decode cJ6_bitCount_0f7a4 38 = .ok (.iushr, 1) := by decide +kernel
theorem dJ6_bitCount_0f7a4_39 : decode cJ6_bitCount_0f7a4 39 = .ok (.iadd, 1) := by decide +kernel
theorem dJ6_bitCount_0f7a4_40 : decode cJ6_bitCount_0f7a4 40 = .ok (.istore_n 0, 1) := by decide +kernel
theorem dJ6_bitCount_0f7a4_41 : decode cJ6_bitCount_0f7a4 41 = .ok (.iload_n 0, 1) := by decide +kernel
theorem dJ6_bitCount_0f7a4_42 : decode cJ6_bitCount_0f7a4 42 = .ok (.iload_n 0, 1) := by decide +kernel
theorem dJ6_bitCount_0f7a4_43 : decode cJ6_bitCount_0f7a4 43 = .ok (.bipush 16, 2) := by decide +kernel
theorem dJ6_bitCount_0f7a4_45 : decode cJ6_bitCount_0f7a4 45 = .ok (.iushr, 1) := by decide +kernel
theorem dJ6_bitCount_0f7a4_46 : decode cJ6_bitCount_0f7a4 46 = .ok (.iadd, 1) := by decide +kernel
theorem dJ6_bitCount_0f7a4_47 : decode cJ6_bitCount_0f7a4 47 = .ok (.istore_n 0, 1) := by decide +kernel
theorem dJ6_bitCount_0f7a4_48 : decode cJ6_bitCount_0f7a4 48 = .ok (.iload_n 0, 1) := by decide +kernel
theorem dJ6_bitCount_0f7a4_49 : decode cJ6_bitCount_0f7a4 49 = .ok (.bipush 63, 2) := by decide +kernel
theorem dJ6_bitCount_0f7a4_51 : decode cJ6_bitCount_0f7a4 51 = .ok (.iand, 1) := by decide +kernel
theorem dJ6_bitCount_0f7a4_52 : decode cJ6_bitCount_0f7a4 52 = .ok (.ireturn, 1) := by decide +kernel
theorem dJ9_floorDiv_7cf53_0 : decode cJ9_floorDiv_7cf53 0 = .ok (.iload_n 0, 1) := by decide +kernel
theorem dJ9_floorDiv_7cf53_1 : decode cJ9_floorDiv_7cf53 1 = .ok (.iload_n 1, 1) := by decide +kernel
theorem dJ9_floorDiv_7cf53_2 : decode cJ9_floorDiv_7cf53 2 = .ok (.idiv, 1) := by decide +kernel
theorem dJ9_floorDiv_7cf53_3 : decode cJ9_floorDiv_7cf53 3 = .ok (.istore_n 2, 1) := by decide +kernel
theorem dJ9_floorDiv_7cf53_4 : decode cJ9_floorDiv_7cf53 4 = .ok (.iload_n 0, 1) := by decide +kernel
theorem dJ9_floorDiv_7cf53_5 : decode cJ9_floorDiv_7cf53 5 = .ok (.iload_n 1, 1) := by decide +kernel
theorem dJ9_floorDiv_7cf53_6 : decode cJ9_floorDiv_7cf53 6 = .ok (.ixor, 1) := by decide +kernel
theorem dJ9_floorDiv_7cf53_7 : decode cJ9_floorDiv_7cf53 7 = .ok (.ifCond .ge 14, 3) := by decide +kernel
theorem dJ9_floorDiv_7cf53_10 : decode cJ9_floorDiv_7cf53 10 = .ok (.iload_n 2, 1) := by decide +kernel
theorem dJ9_floorDiv_7cf53_11 : decode cJ9_floorDiv_7cf53 11 = .ok (.iload_n 1, 1) := by decide +kernel
theorem dJ9_floorDiv_7cf53_12 : decode cJ9_floorDiv_7cf53 12 = .ok (.imul, 1) := by decide +kernel
theorem dJ9_floorDiv_7cf53_13 : decode cJ9_floorDiv_7cf53 13 = .ok (.iload_n 0, 1) := by decide +kernel
theorem dJ9_floorDiv_7cf53_14 : decode cJ9_floorDiv_7cf53 14 = .ok (.if_icmp .eq 7, 3) := by decide +kernel
theorem dJ9_floorDiv_7cf53_17 : decode cJ9_floorDiv_7cf53 17 = .ok (.iload_n 2, 1) := by decide +kernel
theorem dJ9_floorDiv_7cf53_18 : decode cJ9_floorDiv_7cf53 18 = .ok (.iconst 1, 1) := by decide +kernel
theorem dJ9_floorDiv_7cf53_19 : decode cJ9_floorDiv_7cf53 19 = .ok (.isub, 1) := by decide +kernel
theorem dJ9_floorDiv_7cf53_20 : decode cJ9_floorDiv_7cf53 20 = .ok (.ireturn, 1) := by decide +kernel
theorem dJ9_floorDiv_7cf53_21 : decode cJ9_floorDiv_7cf53 21 = .ok (.iload_n 2, 1) := by decide +kernel
theorem dJ9_floorDiv_7cf53_22 : decode cJ9_floorDiv_7cf53 22 = .ok (.ireturn, 1) := by decide +kernel
theorem dJ9_floorMod_7cf53_0 : decode cJ9_floorMod_7cf53 0 = .ok (.iload_n 0, 1) := by decide +kernel
theorem dJ9_floorMod_7cf53_1 : decode cJ9_floorMod_7cf53 1 = .ok (.iload_n 1, 1) := by decide +kernel
theorem dJ9_floorMod_7cf53_2 : decode cJ9_floorMod_7cf53 2 = .ok (.irem, 1) := by decide +kernel
theorem dJ9_floorMod_7cf53_3 : decode cJ9_floorMod_7cf53 3 = .ok (.istore_n 2, 1) := by decide +kernel
theorem dJ9_floorMod_7cf53_4 : decode cJ9_floorMod_7cf53 4 = .ok (.iload_n 0, 1) := by decide +kernel
theorem dJ9_floorMod_7cf53_5 : decode cJ9_floorMod_7cf53 5 = .ok (.iload_n 1, 1) := by decide +kernel
theorem dJ9_floorMod_7cf53_6 : decode cJ9_floorMod_7cf53 6 = .ok (.ixor, 1) := by decide +kernel
theorem dJ9_floorMod_7cf53_7 : decode cJ9_floorMod_7cf53 7 = .ok (.ifCond .ge 11, 3) := by decide +kernel
theorem dJ9_floorMod_7cf53_10 : decode cJ9_floorMod_7cf53 10 = .ok (.iload_n 2, 1) := by decide +kernel
theorem dJ9_floorMod_7cf53_11 : decode cJ9_floorMod_7cf53 11 = .ok (.ifCond .eq 7, 3) := by decide +kernel
theorem dJ9_floorMod_7cf53_14 : decode cJ9_floorMod_7cf53 14 = .ok (.iload_n 2, 1) := by decide +kernel
theorem dJ9_floorMod_7cf53_15 : decode cJ9_floorMod_7cf53 15 = .ok (.iload_n 1, 1) := by decide +kernel
theorem dJ9_floorMod_7cf53_16 : decode cJ9_floorMod_7cf53 16 = .ok (.iadd, 1) := by decide +kernel
theorem dJ9_floorMod_7cf53_17 : decode cJ9_floorMod_7cf53 17 = .ok (.ireturn, 1) := by decide +kernel
theorem dJ9_floorMod_7cf53_18 : decode cJ9_floorMod_7cf53 18 = .ok (.iload_n 2, 1) := by decide +kernel
theorem dJ9_floorMod_7cf53_19 : decode cJ9_floorMod_7cf53 19 = .ok (.ireturn, 1) := by decide +kernel
theorem dJ9_abs_0f7a4_0 : decode cJ9_abs_0f7a4 0 = .ok (.iload_n 0, 1) := by decide +kernel
theorem dJ9_abs_0f7a4_1 : decode cJ9_abs_0f7a4 1 = .ok (.ifCond .ge 8, 3) := by decide +kernel
theorem dJ9_abs_0f7a4_4 : decode cJ9_abs_0f7a4 4 = .ok (.iload_n 0, 1) := by decide +kernel
theorem dJ9_abs_0f7a4_5 : decode cJ9_abs_0f7a4 5 = .ok (.ineg, 1) := by decide +kernel
theorem dJ9_abs_0f7a4_6 : decode cJ9_abs_0f7a4 6 = .ok (.goto 4, 3) := by decide +kernel
theorem dJ9_abs_0f7a4_9 : decode cJ9_abs_0f7a4 9 = .ok (.iload_n 0, 1) := by decide +kernel
theorem dJ9_abs_0f7a4_10 : decode cJ9_abs_0f7a4 10 = .ok (.ireturn, 1) := by decide +kernel
theorem dJ9_max_7cf53_0 : decode cJ9_max_7cf53 0 = .ok (.iload_n 0, 1) := by decide +kernel
theorem dJ9_max_7cf53_1 : decode cJ9_max_7cf53 1 = .ok (.iload_n 1, 1) := by decide +kernel
theorem dJ9_max_7cf53_2 : decode cJ9_max_7cf53 2 = .ok (.if_icmp .lt 7, 3) := by decide +kernel
theorem dJ9_max_7cf53_5 : decode cJ9_max_7cf53 5 = .ok (.iload_n 0, 1) := by decide +kernel
theorem dJ9_max_7cf53_6 : decode cJ9_max_7cf53 6 = .ok (.goto 4, 3) := by decide +kernel
theorem dJ9_max_7cf53_9 : decode cJ9_max_7cf53 9 = .ok (.iload_n 1, 1) := by decide +kernel
theorem dJ9_max_7cf53_10 : decode cJ9_max_7cf53 10 = .ok (.ireturn, 1) := by decide +kernel
theorem dJ9_min_7cf53_0 : decode cJ9_min_7cf53 0 = .ok (.iload_n 0, 1) := by decide +kernel
theorem dJ9_min_7cf53_1 : decode cJ9_min_7cf53 1 = .ok (.iload_n 1, 1) := by decide +kernel
theorem dJ9_min_7cf53_2 : decode cJ9_min_7cf53 2 = .ok (.if_icmp .gt 7, 3) := by decide +kernel
theorem dJ9_min_7cf53_5 : decode cJ9_min_7cf53 5 = .ok (.iload_n 0, 1) := by decide +kernel
theorem dJ9_min_7cf53_6 : decode cJ9_min_7cf53 6 = .ok (.goto 4, 3) := by decide +kernel
theorem dJ9_min_7cf53_9 : decode cJ9_min_7cf53 9 = .ok (.iload_n 1, 1) := by decide +kernel
theorem dJ9_min_7cf53_10 : decode cJ9_min_7cf53 10 = .ok (.ireturn, 1) := by decide +kernel
theorem dL_below_0 : decode cL_below 0 = .ok (.iload_n 0, 1) := by decide +kernel
theorem dL_below_1 : decode cL_below 1 = .ok (.ldc 7, 2) := by decide +kernel
theorem dL_below_3 : decode cL_below 3 = .ok (.iand, 1) := by decide +kernel
theorem dL_below_4 : decode cL_below 4 = .ok (.iload_n 1, 1) := by decide +kernel
theorem dL_below_5 : decode cL_below 5 = .ok (.irem, 1) := by decide +kernel
theorem dL_below_6 : decode cL_below 6 = .ok (.ireturn, 1) := by decide +kernel
theorem dL_cell_0 : decode cL_cell 0 = .ok (.iload_n 1, 1) := by decide +kernel
theorem dL_cell_1 : decode cL_cell 1 = .ok (.aload_n 0, 1) := by decide +kernel
theorem dL_cell_2 : decode cL_cell 2 = .ok (.arraylength, 1) := by decide +kernel
theorem dL_cell_3 : decode cL_cell 3 = .ok (.if_icmp .ge 9, 3) := by decide +kernel
theorem dL_cell_6 : decode cL_cell 6 = .ok (.aload_n 0, 1) := by decide +kernel
theorem dL_cell_7 : decode cL_cell 7 = .ok (.iload_n 1, 1) := by decide +kernel
theorem dL_cell_8 : decode cL_cell 8 = .ok (.iaload, 1) := by decide +kernel
theorem dL_cell_9 : decode cL_cell 9 = .ok (.goto 9, 3) := by decide +kernel
theorem dL_cell_12 : decode cL_cell 12 = .ok (.ldc 8, 2) := by decide +kernel
theorem dL_cell_14 : decode cL_cell 14 = .ok (.iload_n 1, 1) := by decide +kernel
theorem dL_cell_15 : decode cL_cell 15 = .ok (.iconst 3, 1) := by decide +kernel
theorem dL_cell_16 : decode cL_cell 16 = .ok (.iadd, 1) := by decide +kernel
theorem dL_cell_17 : decode cL_cell 17 = .ok (.imul, 1) := by decide +kernel
theorem dL_cell_18 : decode cL_cell 18 = .ok (.ireturn, 1) := by decide +kernel
theorem dL_ground_0 : decode cL_ground 0 = .ok (.sipush 1729, 3) := by decide +kernel
theorem dL_ground_3 : decode cL_ground 3 = .ok (.newarray .int, 2) := by decide +kernel
theorem dL_ground_5 : decode cL_ground 5 = .ok (.astore_n 3, 1) := by decide +kernel
theorem dL_ground_6 : decode cL_ground 6 = .ok (.aload_n 3, 1) := by decide +kernel
theorem dL_ground_7 : decode cL_ground 7 = .ok (.sipush 1728, 3) := by decide +kernel
theorem dL_ground_10 : decode cL_ground 10 = .ok (.bipush 12, 2) := by decide +kernel
theorem dL_ground_12 : decode cL_ground 12 = .ok (.iastore, 1) := by decide +kernel
theorem dL_ground_13 : decode cL_ground 13 = .ok (.iconst 0, 1) := by decide +kernel
theorem dL_ground_14 : decode cL_ground 14 = .ok (.istore 4, 2) := by decide +kernel
theorem dL_ground_16 : decode cL_ground 16 = .ok (.iload 4, 2) := by decide +kernel
theorem dL_ground_18 : decode cL_ground 18 = .ok (.bipush 10, 2) := by decide +kernel
theorem dL_ground_20 : decode cL_ground 20 = .ok (.if_icmp .ge 345, 3) := by decide +kernel
theorem dL_ground_23 : decode cL_ground 23 = .ok (.aload_n 1, 1) := by decide +kernel
theorem dL_ground_24 : decode cL_ground 24 = .ok (.iload_n 2, 1) := by decide +kernel
theorem dL_ground_25 : decode cL_ground 25 = .ok (.iload 4, 2) := by decide +kernel
theorem dL_ground_27 : decode cL_ground 27 = .ok (.bipush 8, 2) := by decide +kernel
theorem dL_ground_29 : decode cL_ground 29 = .ok (.irem, 1) := by decide +kernel
theorem dL_ground_30 : decode cL_ground 30 = .ok (.iadd, 1) := by decide +kernel
theorem dL_ground_31 : decode cL_ground 31 = .ok (.invokestatic 9, 3) := by decide +kernel
theorem dL_ground_34 : decode cL_ground 34 = .ok (.iload 4, 2) := by decide +kernel
theorem dL_ground_36 : decode cL_ground 36 = .ok (.bipush 8, 2) := by decide +kernel
theorem dL_ground_38 : decode cL_ground 38 = .ok (.idiv, 1) := by decide +kernel
theorem dL_ground_39 : decode cL_ground 39 = .ok (.bipush 9, 2) := by decide +kernel
theorem dL_ground_41 : decode cL_ground 41 = .ok (.imul, 1) := by decide +kernel
theorem dL_ground_42 : decode cL_ground 42 = .ok (.ishr, 1) := by decide +kernel
theorem dL_ground_43 : decode cL_ground 43 = .ok (.istore 5, 2) := by decide +kernel
theorem dL_ground_45 : decode cL_ground 45 = .ok (.iload 5, 2) := by decide +kernel
theorem dL_ground_47 : decode cL_ground 47 = .ok (.bipush 24, 2) := by decide +kernel
theorem dL_ground_49 : decode cL_ground 49 = .ok (.invokestatic 15, 3) := by decide +kernel
theorem dL_ground_52 : decode cL_ground 52 = .ok (.istore 6, 2) := by decide +kernel
theorem dL_ground_54 : decode cL_ground 54 = .ok (.bipush 23, 2) := by decide +kernel
theorem dL_ground_56 : decode cL_ground 56 = .ok (.iload 6, 2) := by decide +kernel
theorem dL_ground_58 : decode cL_ground 58 = .ok (.iload 5, 2) := by decide +kernel
theorem dL_ground_60 : decode cL_ground 60 = .ok (.iconst 3, 1) := by decide +kernel
theorem dL_ground_61 : decode cL_ground 61 = .ok (.ishr, 1) := by decide +kernel
theorem dL_ground_62 : decode cL_ground 62 = .ok (.bipush 9, 2) := by decide +kernel
theorem dL_ground_64 : decode cL_ground 64 = .ok (.invokestatic 15, 3) := by decide +kernel
theorem dL_ground_67 : decode cL_ground 67 = .ok (.iadd, 1) := by decide +kernel
theorem dL_ground_68 : decode cL_ground 68 = .ok (.invokestatic 19, 3) := by decide +kernel
theorem dL_ground_71 : decode cL_ground 71 = .ok (.istore 7, 2) := by decide +kernel
theorem dL_ground_73 : decode cL_ground 73 = .ok (.iload 5, 2) := by decide +kernel
theorem dL_ground_75 : decode cL_ground 75 = .ok (.iconst 5, 1) := by decide +kernel
theorem dL_ground_76 : decode cL_ground 76 = .ok (.ishr, 1) := by decide +kernel
theorem dL_ground_77 : decode cL_ground 77 = .ok (.bipush 24, 2) := by decide +kernel
theorem dL_ground_79 : decode cL_ground 79 = .ok (.invokestatic 15, 3) := by decide +kernel
theorem dL_ground_82 : decode cL_ground 82 = .ok (.istore 8, 2) := by decide +kernel
theorem dL_ground_84 : decode cL_ground 84 = .ok (.bipush 23, 2) := by decide +kernel
theorem dL_ground_86 : decode cL_ground 86 = .ok (.iload 8, 2) := by decide +kernel
theorem dL_ground_88 : decode cL_ground 88 = .ok (.iload 5, 2) := by decide +kernel
theorem dL_ground_90 : decode cL_ground 90 = .ok (.bipush 7, 2) := by decide +kernel
theorem dL_ground_92 : decode cL_ground 92 = .ok (.ishr, 1) := by decide +kernel
theorem dL_ground_93 : decode cL_ground 93 = .ok (.bipush 9, 2) := by decide +kernel
theorem dL_ground_95 : decode cL_ground 95 = .ok (.invokestatic 15, 3) := by decide +kernel
theorem dL_ground_98 : decode cL_ground 98 = .ok (.iadd, 1) := by decide +kernel
theorem dL_ground_99 : decode cL_ground 99 = .ok (.invokestatic 19, 3) := by decide +kernel
theorem dL_ground_102 : decode cL_ground 102 = .ok (.istore 9, 2) := by decide +kernel
theorem dL_ground_104 : decode cL_ground 104 = .ok (.iload 4, 2) := by decide +kernel
theorem dL_ground_106 : decode cL_ground 106 = .ok (.bipush 6, 2) := by decide +kernel
theorem dL_ground_108 : decode cL_ground 108 = .ok (.if_icmp .ge 112, 3) := by decide +kernel
theorem dL_ground_111 : decode cL_ground 111 = .ok (.iload 5, 2) := by decide +kernel
theorem dL_ground_113 : decode cL_ground 113 = .ok (.iconst 4, 1) := by decide +kernel
theorem dL_ground_114 : decode cL_ground 114 = .ok (.ishr, 1) := by decide +kernel
theorem dL_ground_115 : decode cL_ground 115 = .ok (.bipush 17, 2) := by decide +kernel
theorem dL_ground_117 : decode cL_ground 117 = .ok (.invokestatic 15, 3) := by decide +kernel
theorem dL_ground_120 : decode cL_ground 120 = .ok (.bipush 7, 2) := by decide +kernel
theorem dL_ground_122 : decode cL_ground 122 = .ok (.isub, 1) := by decide +kernel
theorem dL_ground_123 : decode cL_ground 123 = .ok (.istore 10, 2) := by decide +kernel
theorem dL_ground_125 : decode cL_ground 125 = .ok (.sipush (-999), 3) := by decide +kernel
theorem dL_ground_128 : decode cL_ground 128 = .ok (.istore 11, 2) := by decide +kernel
theorem dL_ground_130 : decode cL_ground 130 = .ok (.iload 8, 2) := by decide +kernel
theorem dL_ground_132 : decode cL_ground 132 = .ok (.istore 12, 2) := by decide +kernel
theorem dL_ground_134 : decode cL_ground 134 = .ok (.iload 12, 2) := by decide +kernel
theorem dL_ground_136 : decode cL_ground 136 = .ok (.iload 9, 2) := by decide +kernel
theorem dL_ground_138 : decode cL_ground 138 = .ok (.if_icmp .gt 58, 3) := by decide +kernel
theorem dL_ground_141 : decode cL_ground 141 = .ok (.iload 6, 2) := by decide +kernel
theorem dL_ground_143 : decode cL_ground 143 = .ok (.istore 13, 2) := by decide +kernel
theorem dL_ground_145 : decode cL_ground 145 = .ok (.iload 13, 2) := by decide +kernel
theorem dL_ground_147 : decode cL_ground 147 = .ok (.iload 7, 2) := by decide +kernel
theorem dL_ground_149 : decode cL_ground 149 = .ok (.if_icmp .gt 41, 3) := by decide +kernel
theorem dL_ground_152 : decode cL_ground 152 = .ok (.aload_n 3, 1) := by decide +kernel
theorem dL_ground_153 : decode cL_ground 153 = .ok (.bipush 24, 2) := by decide +kernel
theorem dL_ground_155 : decode cL_ground 155 = .ok (.iload 12, 2) := by decide +kernel
theorem dL_ground_157 : decode cL_ground 157 = .ok (.imul, 1) := by decide +kernel
theorem dL_ground_158 : decode cL_ground 158 = .ok (.iload 13, 2) := by decide +kernel
theorem dL_ground_160 : decode cL_ground 160 = .ok (.iadd, 1) := by decide +kernel
theorem dL_ground_161 : decode cL_ground 161 = .ok (.dup2, 1) := by decide +kernel
theorem dL_ground_162 : decode cL_ground 162 = .ok (.iaload, 1) := by decide +kernel
theorem dL_ground_163 : decode cL_ground 163 = .ok (.iload 10, 2) := by decide +kernel
theorem dL_ground_165 : decode cL_ground 165 = .ok (.iadd, 1) := by decide +kernel
theorem dL_ground_166 : decode cL_ground 166 = .ok (.iastore, 1) := by decide +kernel
theorem dL_ground_167 : decode cL_ground 167 = .ok (.iload 11, 2) := by decide +kernel
theorem dL_ground_169 : decode cL_ground 169 = .ok (.aload_n 3, 1) := by decide +kernel
theorem dL_ground_170 : decode cL_ground 170 = .ok (.bipush 24, 2) := by decide +kernel
theorem dL_ground_172 : decode cL_ground 172 = .ok (.iload 12, 2) := by decide +kernel
theorem dL_ground_174 : decode cL_ground 174 = .ok (.imul, 1) := by decide +kernel
theorem dL_ground_175 : decode cL_ground 175 = .ok (.iload 13, 2) := by decide +kernel
theorem dL_ground_177 : decode cL_ground 177 = .ok (.iadd, 1) := by decide +kernel
theorem dL_ground_178 : decode cL_ground 178 = .ok (.iaload, 1) := by decide +kernel
theorem dL_ground_179 : decode cL_ground 179 = .ok (.invokestatic 24, 3) := by decide +kernel
theorem dL_ground_182 : decode cL_ground 182 = .ok (.istore 11, 2) := by decide +kernel
theorem dL_ground_184 : decode cL_ground 184 = .ok (.iinc 13 1, 3) := by decide +kernel
theorem dL_ground_187 : decode cL_ground 187 = .ok (.goto (-42), 3) := by decide +kernel
theorem dL_ground_190 : decode cL_ground 190 = .ok (.iinc 12 1, 3) := by decide +kernel
theorem dL_ground_193 : decode cL_ground 193 = .ok (.goto (-59), 3) := by decide +kernel
theorem dL_ground_196 : decode cL_ground 196 = .ok (.aload_n 0, 1) := by decide +kernel
theorem dL_ground_197 : decode cL_ground 197 = .ok (.iload 6, 2) := by decide +kernel
theorem dL_ground_199 : decode cL_ground 199 = .ok (.iload 7, 2) := by decide +kernel
theorem dL_ground_201 : decode cL_ground 201 = .ok (.iload 8, 2) := by decide +kernel
theorem dL_ground_203 : decode cL_ground 203 = .ok (.iload 9, 2) := by decide +kernel
theorem dL_ground_205 : decode cL_ground 205 = .ok (.iload 10, 2) := by decide +kernel
theorem dL_ground_207 : decode cL_ground 207 = .ok (.invokevirtual 27, 3) := by decide +kernel
theorem dL_ground_210 : decode cL_ground 210 = .ok (.iload 11, 2) := by decide +kernel
theorem dL_ground_212 : decode cL_ground 212 = .ok (.if_icmp .eq 5, 3) := by decide +kernel
theorem dL_ground_215 : decode cL_ground 215 = .ok (.aconst_null, 1) := by decide +kernel
theorem dL_ground_216 : decode cL_ground 216 = .ok (.areturn, 1) := by decide +kernel
theorem dL_ground_217 : decode cL_ground 217 = .ok (.goto 142, 3) := by decide +kernel
theorem dL_ground_220 : decode cL_ground 220 = .ok (.iload 5, 2) := by decide +kernel
theorem dL_ground_222 : decode cL_ground 222 = .ok (.iconst 2, 1) := by decide +kernel
theorem dL_ground_223 : decode cL_ground 223 = .ok (.ishr, 1) := by decide +kernel
theorem dL_ground_224 : decode cL_ground 224 = .ok (.iconst 4, 1) := by decide +kernel
theorem dL_ground_225 : decode cL_ground 225 = .ok (.invokestatic 15, 3) := by decide +kernel
theorem dL_ground_228 : decode cL_ground 228 = .ok (.istore 10, 2) := by decide +kernel
theorem dL_ground_230 : decode cL_ground 230 = .ok (.iload 5, 2) := by decide +kernel
theorem dL_ground_232 : decode cL_ground 232 = .ok (.bipush 6, 2) := by decide +kernel
theorem dL_ground_234 : decode cL_ground 234 = .ok (.ishr, 1) := by decide +kernel

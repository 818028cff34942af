theorem dX10_isRight_29 : decode cX10_isRight 29 = .ok (.iconst 1, 1) := by decide +kernel
theorem dX10_isRight_30 : decode cX10_isRight 30 = .ok (.bipush 9, 2) := by decide +kernel
theorem dX10_isRight_32 : decode cX10_isRight 32 = .ok (.invokestatic 74, 3) := by decide +kernel
theorem dX10_isRight_35 : decode cX10_isRight 35 = .ok (.ifCond .eq 7, 3) := by decide +kernel
theorem dX10_isRight_38 : decode cX10_isRight 38 = .ok (.iconst 1, 1) := by decide +kernel
theorem dX10_isRight_39 : decode cX10_isRight 39 = .ok (.goto 4, 3) := by decide +kernel
theorem dX10_isRight_42 : decode cX10_isRight 42 = .ok (.iconst 0, 1) := by decide +kernel
theorem dX10_isRight_43 : decode cX10_isRight 43 = .ok (.ireturn, 1) := by decide +kernel
theorem dX10_isRight_44 : decode cX10_isRight 44 = .ok (.iload_n 1, 1) := by decide +kernel
theorem dX10_isRight_45 : decode cX10_isRight 45 = .ok (.iconst 3, 1) := by decide +kernel
theorem dX10_isRight_46 : decode cX10_isRight 46 = .ok (.if_icmp .ne 7, 3) := by decide +kernel
theorem dX10_isRight_49 : decode cX10_isRight 49 = .ok (.iconst 1, 1) := by decide +kernel
theorem dX10_isRight_50 : decode cX10_isRight 50 = .ok (.goto 4, 3) := by decide +kernel
theorem dX10_isRight_53 : decode cX10_isRight 53 = .ok (.iconst 0, 1) := by decide +kernel
theorem dX10_isRight_54 : decode cX10_isRight 54 = .ok (.istore 4, 2) := by decide +kernel
theorem dX10_isRight_56 : decode cX10_isRight 56 = .ok (.iload_n 1, 1) := by decide +kernel
theorem dX10_isRight_57 : decode cX10_isRight 57 = .ok (.iconst 3, 1) := by decide +kernel
theorem dX10_isRight_58 : decode cX10_isRight 58 = .ok (.if_icmp .ne 9, 3) := by decide +kernel
theorem dX10_isRight_61 : decode cX10_isRight 61 = .ok (.sipush 600, 3) := by decide +kernel
theorem dX10_isRight_64 : decode cX10_isRight 64 = .ok (.goto 30, 3) := by decide +kernel
theorem dX10_isRight_67 : decode cX10_isRight 67 = .ok (.iload_n 1, 1) := by decide +kernel
theorem dX10_isRight_68 : decode cX10_isRight 68 = .ok (.iconst 4, 1) := by decide +kernel
theorem dX10_isRight_69 : decode cX10_isRight 69 = .ok (.if_icmp .eq 8, 3) := by decide +kernel
theorem dX10_isRight_72 : decode cX10_isRight 72 = .ok (.iload_n 1, 1) := by decide +kernel
theorem dX10_isRight_73 : decode cX10_isRight 73 = .ok (.iconst 5, 1) := by decide +kernel
theorem dX10_isRight_74 : decode cX10_isRight 74 = .ok (.if_icmp .ne 9, 3) := by decide +kernel
theorem dX10_isRight_77 : decode cX10_isRight 77 = .ok (.sipush 1439, 3) := by decide +kernel
theorem dX10_isRight_80 : decode cX10_isRight 80 = .ok (.goto 14, 3) := by decide +kernel
theorem dX10_isRight_83 : decode cX10_isRight 83 = .ok (.iload_n 1, 1) := by decide +kernel
theorem dX10_isRight_84 : decode cX10_isRight 84 = .ok (.bipush 6, 2) := by decide +kernel
theorem dX10_isRight_86 : decode cX10_isRight 86 = .ok (.if_icmp .ne 7, 3) := by decide +kernel
theorem dX10_isRight_89 : decode cX10_isRight 89 = .ok (.iconst 1, 1) := by decide +kernel
theorem dX10_isRight_90 : decode cX10_isRight 90 = .ok (.goto 4, 3) := by decide +kernel
theorem dX10_isRight_93 : decode cX10_isRight 93 = .ok (.iconst 0, 1) := by decide +kernel
theorem dX10_isRight_94 : decode cX10_isRight 94 = .ok (.istore 5, 2) := by decide +kernel
theorem dX10_isRight_96 : decode cX10_isRight 96 = .ok (.iload_n 2, 1) := by decide +kernel
theorem dX10_isRight_97 : decode cX10_isRight 97 = .ok (.iload 4, 2) := by decide +kernel
theorem dX10_isRight_99 : decode cX10_isRight 99 = .ok (.iload 5, 2) := by decide +kernel
theorem dX10_isRight_101 : decode cX10_isRight 101 = .ok (.invokestatic 74, 3) := by decide +kernel
theorem dX10_isRight_104 : decode cX10_isRight 104 = .ok (.ifCond .eq 11, 3) := by decide +kernel
theorem dX10_isRight_107 : decode cX10_isRight 107 = .ok (.iload_n 3, 1) := by decide +kernel
theorem dX10_isRight_108 : decode cX10_isRight 108 = .ok (.ifCond .ne 7, 3) := by decide +kernel
theorem dX10_isRight_111 : decode cX10_isRight 111 = .ok (.iconst 1, 1) := by decide +kernel
theorem dX10_isRight_112 : decode cX10_isRight 112 = .ok (.goto 4, 3) := by decide +kernel
theorem dX10_isRight_115 : decode cX10_isRight 115 = .ok (.iconst 0, 1) := by decide +kernel
theorem dX10_isRight_116 : decode cX10_isRight 116 = .ok (.ireturn, 1) := by decide +kernel
theorem dX10_isPlanned_0 : decode cX10_isPlanned 0 = .ok (.iload_n 1, 1) := by decide +kernel
theorem dX10_isPlanned_1 : decode cX10_isPlanned 1 = .ok (.iconst 0, 1) := by decide +kernel
theorem dX10_isPlanned_2 : decode cX10_isPlanned 2 = .ok (.aload_n 0, 1) := by decide +kernel
theorem dX10_isPlanned_3 : decode cX10_isPlanned 3 = .ok (.getfield 249, 3) := by decide +kernel
theorem dX10_isPlanned_6 : decode cX10_isPlanned 6 = .ok (.iconst 1, 1) := by decide +kernel
theorem dX10_isPlanned_7 : decode cX10_isPlanned 7 = .ok (.isub, 1) := by decide +kernel
theorem dX10_isPlanned_8 : decode cX10_isPlanned 8 = .ok (.invokestatic 74, 3) := by decide +kernel
theorem dX10_isPlanned_11 : decode cX10_isPlanned 11 = .ok (.ireturn, 1) := by decide +kernel
theorem dX10_insert_0 : decode cX10_insert 0 = .ok (.aload_n 0, 1) := by decide +kernel
theorem dX10_insert_1 : decode cX10_insert 1 = .ok (.getfield 42, 3) := by decide +kernel
theorem dX10_insert_4 : decode cX10_insert 4 = .ok (.iconst 3, 1) := by decide +kernel
theorem dX10_insert_5 : decode cX10_insert 5 = .ok (.iload_n 1, 1) := by decide +kernel
theorem dX10_insert_6 : decode cX10_insert 6 = .ok (.imul, 1) := by decide +kernel
theorem dX10_insert_7 : decode cX10_insert 7 = .ok (.aload_n 0, 1) := by decide +kernel
theorem dX10_insert_8 : decode cX10_insert 8 = .ok (.getfield 42, 3) := by decide +kernel
theorem dX10_insert_11 : decode cX10_insert 11 = .ok (.iconst 3, 1) := by decide +kernel
theorem dX10_insert_12 : decode cX10_insert 12 = .ok (.iload_n 1, 1) := by decide +kernel
theorem dX10_insert_13 : decode cX10_insert 13 = .ok (.iconst 1, 1) := by decide +kernel
theorem dX10_insert_14 : decode cX10_insert 14 = .ok (.iadd, 1) := by decide +kernel
theorem dX10_insert_15 : decode cX10_insert 15 = .ok (.imul, 1) := by decide +kernel
theorem dX10_insert_16 : decode cX10_insert 16 = .ok (.iconst 3, 1) := by decide +kernel
theorem dX10_insert_17 : decode cX10_insert 17 = .ok (.aload_n 0, 1) := by decide +kernel
theorem dX10_insert_18 : decode cX10_insert 18 = .ok (.getfield 249, 3) := by decide +kernel
theorem dX10_insert_21 : decode cX10_insert 21 = .ok (.iload_n 1, 1) := by decide +kernel
theorem dX10_insert_22 : decode cX10_insert 22 = .ok (.isub, 1) := by decide +kernel
theorem dX10_insert_23 : decode cX10_insert 23 = .ok (.imul, 1) := by decide +kernel
theorem dX10_insert_24 : decode cX10_insert 24 = .ok (.invokestatic 151, 3) := by decide +kernel
theorem dX10_insert_27 : decode cX10_insert 27 = .ok (.aload_n 0, 1) := by decide +kernel
theorem dX10_insert_28 : decode cX10_insert 28 = .ok (.getfield 42, 3) := by decide +kernel
theorem dX10_insert_31 : decode cX10_insert 31 = .ok (.iconst 3, 1) := by decide +kernel
theorem dX10_insert_32 : decode cX10_insert 32 = .ok (.iload_n 1, 1) := by decide +kernel
theorem dX10_insert_33 : decode cX10_insert 33 = .ok (.imul, 1) := by decide +kernel
theorem dX10_insert_34 : decode cX10_insert 34 = .ok (.iload_n 2, 1) := by decide +kernel
theorem dX10_insert_35 : decode cX10_insert 35 = .ok (.iastore, 1) := by decide +kernel
theorem dX10_insert_36 : decode cX10_insert 36 = .ok (.aload_n 0, 1) := by decide +kernel
theorem dX10_insert_37 : decode cX10_insert 37 = .ok (.getfield 42, 3) := by decide +kernel
theorem dX10_insert_40 : decode cX10_insert 40 = .ok (.iconst 3, 1) := by decide +kernel
theorem dX10_insert_41 : decode cX10_insert 41 = .ok (.iload_n 1, 1) := by decide +kernel
theorem dX10_insert_42 : decode cX10_insert 42 = .ok (.imul, 1) := by decide +kernel
theorem dX10_insert_43 : decode cX10_insert 43 = .ok (.iconst 1, 1) := by decide +kernel
theorem dX10_insert_44 : decode cX10_insert 44 = .ok (.iadd, 1) := by decide +kernel
theorem dX10_insert_45 : decode cX10_insert 45 = .ok (.iload_n 3, 1) := by decide +kernel
theorem dX10_insert_46 : decode cX10_insert 46 = .ok (.iastore, 1) := by decide +kernel
theorem dX10_insert_47 : decode cX10_insert 47 = .ok (.aload_n 0, 1) := by decide +kernel
theorem dX10_insert_48 : decode cX10_insert 48 = .ok (.getfield 42, 3) := by decide +kernel
theorem dX10_insert_51 : decode cX10_insert 51 = .ok (.iconst 3, 1) := by decide +kernel
theorem dX10_insert_52 : decode cX10_insert 52 = .ok (.iload_n 1, 1) := by decide +kernel
theorem dX10_insert_53 : decode cX10_insert 53 = .ok (.imul, 1) := by decide +kernel
theorem dX10_insert_54 : decode cX10_insert 54 = .ok (.iconst 2, 1) := by decide +kernel
theorem dX10_insert_55 : decode cX10_insert 55 = .ok (.iadd, 1) := by decide +kernel
theorem dX10_insert_56 : decode cX10_insert 56 = .ok (.iload 4, 2) := by decide +kernel
theorem dX10_insert_58 : decode cX10_insert 58 = .ok (.iastore, 1) := by decide +kernel
theorem dX10_insert_59 : decode cX10_insert 59 = .ok (.aload_n 0, 1) := by decide +kernel
theorem dX10_insert_60 : decode cX10_insert 60 = .ok (.dup, 1) := by decide +kernel
theorem dX10_insert_61 : decode cX10_insert 61 = .ok (.getfield 249, 3) := by decide +kernel
theorem dX10_insert_64 : decode cX10_insert 64 = .ok (.iconst 1, 1) := by decide +kernel
theorem dX10_insert_65 : decode cX10_insert 65 = .ok (.iadd, 1) := by decide +kernel
theorem dX10_insert_66 : decode cX10_insert 66 = .ok (.putfield 249, 3) := by decide +kernel
theorem dX10_insert_69 : decode cX10_insert 69 = .ok (.return_, 1) := by decide +kernel
theorem dX10_takeOut_0 : decode cX10_takeOut 0 = .ok (.aload_n 0, 1) := by decide +kernel
theorem dX10_takeOut_1 : decode cX10_takeOut 1 = .ok (.dup, 1) := by decide +kernel
theorem dX10_takeOut_2 : decode cX10_takeOut 2 = .ok (.getfield 249, 3) := by decide +kernel
theorem dX10_takeOut_5 : decode cX10_takeOut 5 = .ok (.iconst 1, 1) := by decide +kernel
theorem dX10_takeOut_6 : decode cX10_takeOut 6 = .ok (.isub, 1) := by decide +kernel
theorem dX10_takeOut_7 : decode cX10_takeOut 7 = .ok (.putfield 249, 3) := by decide +kernel
theorem dX10_takeOut_10 : decode cX10_takeOut 10 = .ok (.aload_n 0, 1) := by decide +kernel
theorem dX10_takeOut_11 : decode cX10_takeOut 11 = .ok (.getfield 42, 3) := by decide +kernel
theorem dX10_takeOut_14 : decode cX10_takeOut 14 = .ok (.iconst 3, 1) := by decide +kernel
theorem dX10_takeOut_15 : decode cX10_takeOut 15 = .ok (.iload_n 1, 1) := by decide +kernel
theorem dX10_takeOut_16 : decode cX10_takeOut 16 = .ok (.iconst 1, 1) := by decide +kernel
theorem dX10_takeOut_17 : decode cX10_takeOut 17 = .ok (.iadd, 1) := by decide +kernel
theorem dX10_takeOut_18 : decode cX10_takeOut 18 = .ok (.imul, 1) := by decide +kernel
theorem dX10_takeOut_19 : decode cX10_takeOut 19 = .ok (.aload_n 0, 1) := by decide +kernel
theorem dX10_takeOut_20 : decode cX10_takeOut 20 = .ok (.getfield 42, 3) := by decide +kernel
theorem dX10_takeOut_23 : decode cX10_takeOut 23 = .ok (.iconst 3, 1) := by decide +kernel
theorem dX10_takeOut_24 : decode cX10_takeOut 24 = .ok (.iload_n 1, 1) := by decide +kernel
theorem dX10_takeOut_25 : decode cX10_takeOut 25 = .ok (.imul, 1) := by decide +kernel
theorem dX10_takeOut_26 : decode cX10_takeOut 26 = .ok (.iconst 3, 1) := by decide +kernel
theorem dX10_takeOut_27 : decode cX10_takeOut 27 = .ok (.aload_n 0, 1) := by decide +kernel
theorem dX10_takeOut_28 : decode cX10_takeOut 28 = .ok (.getfield 249, 3) := by decide +kernel
theorem dX10_takeOut_31 : decode cX10_takeOut 31 = .ok (.iload_n 1, 1) := by decide +kernel
theorem dX10_takeOut_32 : decode cX10_takeOut 32 = .ok (.isub, 1) := by decide +kernel
theorem dX10_takeOut_33 : decode cX10_takeOut 33 = .ok (.imul, 1) := by decide +kernel
theorem dX10_takeOut_34 : decode cX10_takeOut 34 = .ok (.invokestatic 151, 3) := by decide +kernel
theorem dX10_takeOut_37 : decode cX10_takeOut 37 = .ok (.return_, 1) := by decide +kernel
theorem dX10_put_0 : decode cX10_put 0 = .ok (.aload_n 0, 1) := by decide +kernel
theorem dX10_put_1 : decode cX10_put 1 = .ok (.iconst 0, 1) := by decide +kernel
theorem dX10_put_2 : decode cX10_put 2 = .ok (.putfield 71, 3) := by decide +kernel
theorem dX10_put_5 : decode cX10_put 5 = .ok (.iload_n 1, 1) := by decide +kernel
theorem dX10_put_6 : decode cX10_put 6 = .ok (.iconst 0, 1) := by decide +kernel
theorem dX10_put_7 : decode cX10_put 7 = .ok (.aload_n 0, 1) := by decide +kernel
theorem dX10_put_8 : decode cX10_put 8 = .ok (.getfield 249, 3) := by decide +kernel
theorem dX10_put_11 : decode cX10_put 11 = .ok (.invokestatic 74, 3) := by decide +kernel
theorem dX10_put_14 : decode cX10_put 14 = .ok (.ifCond .ne 9, 3) := by decide +kernel
theorem dX10_put_17 : decode cX10_put 17 = .ok (.aload_n 0, 1) := by decide +kernel
theorem dX10_put_18 : decode cX10_put 18 = .ok (.iconst 1, 1) := by decide +kernel
theorem dX10_put_19 : decode cX10_put 19 = .ok (.invokevirtual 89, 3) := by decide +kernel
theorem dX10_put_22 : decode cX10_put 22 = .ok (.ireturn, 1) := by decide +kernel
theorem dX10_put_23 : decode cX10_put 23 = .ok (.iload_n 2, 1) := by decide +kernel
theorem dX10_put_24 : decode cX10_put 24 = .ok (.invokestatic 252, 3) := by decide +kernel
theorem dX10_put_27 : decode cX10_put 27 = .ok (.ifCond .eq 14, 3) := by decide +kernel
theorem dX10_put_30 : decode cX10_put 30 = .ok (.aload_n 0, 1) := by decide +kernel
theorem dX10_put_31 : decode cX10_put 31 = .ok (.iload_n 2, 1) := by decide +kernel
theorem dX10_put_32 : decode cX10_put 32 = .ok (.iload_n 3, 1) := by decide +kernel
theorem dX10_put_33 : decode cX10_put 33 = .ok (.iload 4, 2) := by decide +kernel
theorem dX10_put_35 : decode cX10_put 35 = .ok (.invokevirtual 255, 3) := by decide +kernel
theorem dX10_put_38 : decode cX10_put 38 = .ok (.ifCond .ne 9, 3) := by decide +kernel
theorem dX10_put_41 : decode cX10_put 41 = .ok (.aload_n 0, 1) := by decide +kernel
theorem dX10_put_42 : decode cX10_put 42 = .ok (.iconst 2, 1) := by decide +kernel
theorem dX10_put_43 : decode cX10_put 43 = .ok (.invokevirtual 89, 3) := by decide +kernel
theorem dX10_put_46 : decode cX10_put 46 = .ok (.ireturn, 1) := by decide +kernel
theorem dX10_put_47 : decode cX10_put 47 = .ok (.aload_n 0, 1) := by decide +kernel
theorem dX10_put_48 : decode cX10_put 48 = .ok (.getfield 249, 3) := by decide +kernel
theorem dX10_put_51 : decode cX10_put 51 = .ok (.bipush 40, 2) := by decide +kernel
theorem dX10_put_53 : decode cX10_put 53 = .ok (.if_icmp .ne 9, 3) := by decide +kernel
theorem dX10_put_56 : decode cX10_put 56 = .ok (.aload_n 0, 1) := by decide +kernel
theorem dX10_put_57 : decode cX10_put 57 = .ok (.iconst 3, 1) := by decide +kernel
theorem dX10_put_58 : decode cX10_put 58 = .ok (.invokevirtual 89, 3) := by decide +kernel
theorem dX10_put_61 : decode cX10_put 61 = .ok (.ireturn, 1) := by decide +kernel
theorem dX10_put_62 : decode cX10_put 62 = .ok (.aload_n 0, 1) := by decide +kernel
theorem dX10_put_63 : decode cX10_put 63 = .ok (.iload_n 1, 1) := by decide +kernel
theorem dX10_put_64 : decode cX10_put 64 = .ok (.iload_n 2, 1) := by decide +kernel
theorem dX10_put_65 : decode cX10_put 65 = .ok (.iload_n 3, 1) := by decide +kernel
theorem dX10_put_66 : decode cX10_put 66 = .ok (.iload 4, 2) := by decide +kernel
theorem dX10_put_68 : decode cX10_put 68 = .ok (.invokevirtual 258, 3) := by decide +kernel
theorem dX10_put_71 : decode cX10_put 71 = .ok (.aload_n 0, 1) := by decide +kernel
theorem dX10_put_72 : decode cX10_put 72 = .ok (.getfield 249, 3) := by decide +kernel
theorem dX10_put_75 : decode cX10_put 75 = .ok (.ireturn, 1) := by decide +kernel
theorem dX10_remove_0 : decode cX10_remove 0 = .ok (.aload_n 0, 1) := by decide +kernel
theorem dX10_remove_1 : decode cX10_remove 1 = .ok (.iconst 0, 1) := by decide +kernel
theorem dX10_remove_2 : decode cX10_remove 2 = .ok (.putfield 71, 3) := by decide +kernel
theorem dX10_remove_5 : decode cX10_remove 5 = .ok (.aload_n 0, 1) := by decide +kernel
theorem dX10_remove_6 : decode cX10_remove 6 = .ok (.iload_n 1, 1) := by decide +kernel
theorem dX10_remove_7 : decode cX10_remove 7 = .ok (.invokevirtual 262, 3) := by decide +kernel
theorem dX10_remove_10 : decode cX10_remove 10 = .ok (.ifCond .ne 9, 3) := by decide +kernel
theorem dX10_remove_13 : decode cX10_remove 13 = .ok (.aload_n 0, 1) := by decide +kernel
theorem dX10_remove_14 : decode cX10_remove 14 = .ok (.iconst 1, 1) := by decide +kernel
theorem dX10_remove_15 : decode cX10_remove 15 = .ok (.invokevirtual 89, 3) := by decide +kernel
theorem dX10_remove_18 : decode cX10_remove 18 = .ok (.ireturn, 1) := by decide +kernel
theorem dX10_remove_19 : decode cX10_remove 19 = .ok (.aload_n 0, 1) := by decide +kernel
theorem dX10_remove_20 : decode cX10_remove 20 = .ok (.getfield 42, 3) := by decide +kernel
theorem dX10_remove_23 : decode cX10_remove 23 = .ok (.iconst 3, 1) := by decide +kernel
theorem dX10_remove_24 : decode cX10_remove 24 = .ok (.iload_n 1, 1) := by decide +kernel
theorem dX10_remove_25 : decode cX10_remove 25 = .ok (.imul, 1) := by decide +kernel
theorem dX10_remove_26 : decode cX10_remove 26 = .ok (.iaload, 1) := by decide +kernel
theorem dX10_remove_27 : decode cX10_remove 27 = .ok (.istore_n 2, 1) := by decide +kernel
theorem dX10_remove_28 : decode cX10_remove 28 = .ok (.aload_n 0, 1) := by decide +kernel
theorem dX10_remove_29 : decode cX10_remove 29 = .ok (.iload_n 1, 1) := by decide +kernel
theorem dX10_remove_30 : decode cX10_remove 30 = .ok (.invokevirtual 265, 3) := by decide +kernel
theorem dX10_remove_33 : decode cX10_remove 33 = .ok (.iload_n 2, 1) := by decide +kernel
theorem dX10_remove_34 : decode cX10_remove 34 = .ok (.ireturn, 1) := by decide +kernel
theorem dX10_move_0 : decode cX10_move 0 = .ok (.aload_n 0, 1) := by decide +kernel
theorem dX10_move_1 : decode cX10_move 1 = .ok (.iconst 0, 1) := by decide +kernel
theorem dX10_move_2 : decode cX10_move 2 = .ok (.putfield 71, 3) := by decide +kernel
theorem dX10_move_5 : decode cX10_move 5 = .ok (.aload_n 0, 1) := by decide +kernel
theorem dX10_move_6 : decode cX10_move 6 = .ok (.iload_n 1, 1) := by decide +kernel
theorem dX10_move_7 : decode cX10_move 7 = .ok (.invokevirtual 262, 3) := by decide +kernel
theorem dX10_move_10 : decode cX10_move 10 = .ok (.ifCond .eq 11, 3) := by decide +kernel
theorem dX10_move_13 : decode cX10_move 13 = .ok (.aload_n 0, 1) := by decide +kernel
theorem dX10_move_14 : decode cX10_move 14 = .ok (.iload_n 2, 1) := by decide +kernel
theorem dX10_move_15 : decode cX10_move 15 = .ok (.invokevirtual 262, 3) := by decide +kernel
theorem dX10_move_18 : decode cX10_move 18 = .ok (.ifCond .ne 9, 3) := by decide +kernel
theorem dX10_move_21 : decode cX10_move 21 = .ok (.aload_n 0, 1) := by decide +kernel
theorem dX10_move_22 : decode cX10_move 22 = .ok (.iconst 1, 1) := by decide +kernel
theorem dX10_move_23 : decode cX10_move 23 = .ok (.invokevirtual 89, 3) := by decide +kernel
theorem dX10_move_26 : decode cX10_move 26 = .ok (.ireturn, 1) := by decide +kernel
theorem dX10_move_27 : decode cX10_move 27 = .ok (.aload_n 0, 1) := by decide +kernel
theorem dX10_move_28 : decode cX10_move 28 = .ok (.getfield 42, 3) := by decide +kernel
theorem dX10_move_31 : decode cX10_move 31 = .ok (.iconst 3, 1) := by decide +kernel
theorem dX10_move_32 : decode cX10_move 32 = .ok (.iload_n 1, 1) := by decide +kernel
theorem dX10_move_33 : decode cX10_move 33 = .ok (.imul, 1) := by decide +kernel
theorem dX10_move_34 : decode cX10_move 34 = .ok (.iaload, 1) := by decide +kernel
theorem dX10_move_35 : decode cX10_move 35 = .ok (.istore_n 3, 1) := by decide +kernel
theorem dX10_move_36 : decode cX10_move 36 = .ok (.aload_n 0, 1) := by decide +kernel
theorem dX10_move_37 : decode cX10_move 37 = .ok (.getfield 42, 3) := by decide +kernel
theorem dX10_move_40 : decode cX10_move 40 = .ok (.iconst 3, 1) := by decide +kernel
theorem dX10_move_41 : decode cX10_move 41 = .ok (.iload_n 1, 1) := by decide +kernel
theorem dX10_move_42 : decode cX10_move 42 = .ok (.imul, 1) := by decide +kernel
theorem dX10_move_43 : decode cX10_move 43 = .ok (.iconst 1, 1) := by decide +kernel
theorem dX10_move_44 : decode cX10_move 44 = .ok (.iadd, 1) := by decide +kernel
theorem dX10_move_45 : decode cX10_move 45 = .ok (.iaload, 1) := by decide +kernel
theorem dX10_move_46 : decode cX10_move 46 = .ok (.istore 4, 2) := by decide +kernel
theorem dX10_move_48 : decode cX10_move 48 = .ok (.aload_n 0, 1) := by decide +kernel
theorem dX10_move_49 : decode cX10_move 49 = .ok (.getfield 42, 3) := by decide +kernel
theorem dX10_move_52 : decode cX10_move 52 = .ok (.iconst 3, 1) := by decide +kernel
theorem dX10_move_53 : decode cX10_move 53 = .ok (.iload_n 1, 1) := by decide +kernel
theorem dX10_move_54 : decode cX10_move 54 = .ok (.imul, 1) := by decide +kernel
theorem dX10_move_55 : decode cX10_move 55 = .ok (.iconst 2, 1) := by decide +kernel
theorem dX10_move_56 : decode cX10_move 56 = .ok (.iadd, 1) := by decide +kernel
theorem dX10_move_57 : decode cX10_move 57 = .ok (.iaload, 1) := by decide +kernel
theorem dX10_move_58 : decode cX10_move 58 = .ok (.istore 5, 2) := by decide +kernel
theorem dX10_move_60 : decode cX10_move 60 = .ok (.aload_n 0, 1) := by decide +kernel
theorem dX10_move_61 : decode cX10_move 61 = .ok (.iload_n 1, 1) := by decide +kernel
theorem dX10_move_62 : decode cX10_move 62 = .ok (.invokevirtual 265, 3) := by decide +kernel
theorem dX10_move_65 : decode cX10_move 65 = .ok (.aload_n 0, 1) := by decide +kernel
theorem dX10_move_66 : decode cX10_move 66 = .ok (.iload_n 2, 1) := by decide +kernel
theorem dX10_move_67 : decode cX10_move 67 = .ok (.iload_n 3, 1) := by decide +kernel
theorem dX10_move_68 : decode cX10_move 68 = .ok (.iload 4, 2) := by decide +kernel
theorem dX10_move_70 : decode cX10_move 70 = .ok (.iload 5, 2) := by decide +kernel
theorem dX10_move_72 : decode cX10_move 72 = .ok (.invokevirtual 258, 3) := by decide +kernel
theorem dX10_move_75 : decode cX10_move 75 = .ok (.iload_n 3, 1) := by decide +kernel
theorem dX10_move_76 : decode cX10_move 76 = .ok (.ireturn, 1) := by decide +kernel
theorem dX10_activity_0 : decode cX10_activity 0 = .ok (.aload_n 0, 1) := by decide +kernel
theorem dX10_activity_1 : decode cX10_activity 1 = .ok (.iconst 0, 1) := by decide +kernel
theorem dX10_activity_2 : decode cX10_activity 2 = .ok (.putfield 71, 3) := by decide +kernel
theorem dX10_activity_5 : decode cX10_activity 5 = .ok (.aload_n 0, 1) := by decide +kernel
theorem dX10_activity_6 : decode cX10_activity 6 = .ok (.iload_n 1, 1) := by decide +kernel
theorem dX10_activity_7 : decode cX10_activity 7 = .ok (.invokevirtual 262, 3) := by decide +kernel
theorem dX10_activity_10 : decode cX10_activity 10 = .ok (.ifCond .eq 25, 3) := by decide +kernel
theorem dX10_activity_13 : decode cX10_activity 13 = .ok (.iload_n 2, 1) := by decide +kernel
theorem dX10_activity_14 : decode cX10_activity 14 = .ok (.iconst 0, 1) := by decide +kernel
theorem dX10_activity_15 : decode cX10_activity 15 = .ok (.iconst 2, 1) := by decide +kernel
theorem dX10_activity_16 : decode cX10_activity 16 = .ok (.invokestatic 74, 3) := by decide +kernel
theorem dX10_activity_19 : decode cX10_activity 19 = .ok (.ifCond .eq 16, 3) := by decide +kernel
theorem dX10_activity_22 : decode cX10_activity 22 = .ok (.aload_n 0, 1) := by decide +kernel
theorem dX10_activity_23 : decode cX10_activity 23 = .ok (.getfield 42, 3) := by decide +kernel
theorem dX10_activity_26 : decode cX10_activity 26 = .ok (.iconst 3, 1) := by decide +kernel
theorem dX10_activity_27 : decode cX10_activity 27 = .ok (.iload_n 1, 1) := by decide +kernel
theorem dX10_activity_28 : decode cX10_activity 28 = .ok (.imul, 1) := by decide +kernel
theorem dX10_activity_29 : decode cX10_activity 29 = .ok (.iload_n 2, 1) := by decide +kernel
theorem dX10_activity_30 : decode cX10_activity 30 = .ok (.iadd, 1) := by decide +kernel
theorem dX10_activity_31 : decode cX10_activity 31 = .ok (.iaload, 1) := by decide +kernel
theorem dX10_activity_32 : decode cX10_activity 32 = .ok (.goto 8, 3) := by decide +kernel
theorem dX10_activity_35 : decode cX10_activity 35 = .ok (.aload_n 0, 1) := by decide +kernel
theorem dX10_activity_36 : decode cX10_activity 36 = .ok (.iconst 1, 1) := by decide +kernel
theorem dX10_activity_37 : decode cX10_activity 37 = .ok (.invokevirtual 89, 3) := by decide +kernel
theorem dX10_activity_40 : decode cX10_activity 40 = .ok (.ireturn, 1) := by decide +kernel
theorem dX10_counted_0 : decode cX10_counted 0 = .ok (.iload_n 1, 1) := by decide +kernel
theorem dX10_counted_1 : decode cX10_counted 1 = .ok (.ifCond .ne 10, 3) := by decide +kernel
theorem dX10_counted_4 : decode cX10_counted 4 = .ok (.aload_n 0, 1) := by decide +kernel
theorem dX10_counted_5 : decode cX10_counted 5 = .ok (.getfield 78, 3) := by decide +kernel
theorem dX10_counted_8 : decode cX10_counted 8 = .ok (.goto 31, 3) := by decide +kernel
theorem dX10_counted_11 : decode cX10_counted 11 = .ok (.iload_n 1, 1) := by decide +kernel
theorem dX10_counted_12 : decode cX10_counted 12 = .ok (.iconst 1, 1) := by decide +kernel
theorem dX10_counted_13 : decode cX10_counted 13 = .ok (.if_icmp .ne 10, 3) := by decide +kernel
theorem dX10_counted_16 : decode cX10_counted 16 = .ok (.aload_n 0, 1) := by decide +kernel
theorem dX10_counted_17 : decode cX10_counted 17 = .ok (.getfield 185, 3) := by decide +kernel
theorem dX10_counted_20 : decode cX10_counted 20 = .ok (.goto 19, 3) := by decide +kernel
theorem dX10_counted_23 : decode cX10_counted 23 = .ok (.iload_n 1, 1) := by decide +kernel
theorem dX10_counted_24 : decode cX10_counted 24 = .ok (.iconst 2, 1) := by decide +kernel
theorem dX10_counted_25 : decode cX10_counted 25 = .ok (.if_icmp .ne 10, 3) := by decide +kernel
theorem dX10_counted_28 : decode cX10_counted 28 = .ok (.aload_n 0, 1) := by decide +kernel
theorem dX10_counted_29 : decode cX10_counted 29 = .ok (.getfield 249, 3) := by decide +kernel
theorem dX10_counted_32 : decode cX10_counted 32 = .ok (.goto 7, 3) := by decide +kernel
theorem dX10_counted_35 : decode cX10_counted 35 = .ok (.aload_n 0, 1) := by decide +kernel
theorem dX10_counted_36 : decode cX10_counted 36 = .ok (.getfield 269, 3) := by decide +kernel
theorem dX10_counted_39 : decode cX10_counted 39 = .ok (.ireturn, 1) := by decide +kernel
theorem dX10_count_0 : decode cX10_count 0 = .ok (.aload_n 0, 1) := by decide +kernel
theorem dX10_count_1 : decode cX10_count 1 = .ok (.iconst 0, 1) := by decide +kernel
theorem dX10_count_2 : decode cX10_count 2 = .ok (.putfield 71, 3) := by decide +kernel
theorem dX10_count_5 : decode cX10_count 5 = .ok (.iload_n 1, 1) := by decide +kernel
theorem dX10_count_6 : decode cX10_count 6 = .ok (.iconst 0, 1) := by decide +kernel
theorem dX10_count_7 : decode cX10_count 7 = .ok (.iconst 3, 1) := by decide +kernel
theorem dX10_count_8 : decode cX10_count 8 = .ok (.invokestatic 74, 3) := by decide +kernel
theorem dX10_count_11 : decode cX10_count 11 = .ok (.ifCond .eq 11, 3) := by decide +kernel
theorem dX10_count_14 : decode cX10_count 14 = .ok (.aload_n 0, 1) := by decide +kernel
theorem dX10_count_15 : decode cX10_count 15 = .ok (.iload_n 1, 1) := by decide +kernel
theorem dX10_count_16 : decode cX10_count 16 = .ok (.invokevirtual 272, 3) := by decide +kernel
theorem dX10_count_19 : decode cX10_count 19 = .ok (.goto 8, 3) := by decide +kernel
theorem dX10_count_22 : decode cX10_count 22 = .ok (.aload_n 0, 1) := by decide +kernel
theorem dX10_count_23 : decode cX10_count 23 = .ok (.iconst 1, 1) := by decide +kernel
theorem dX10_count_24 : decode cX10_count 24 = .ok (.invokevirtual 89, 3) := by decide +kernel
theorem dX10_count_27 : decode cX10_count 27 = .ok (.ireturn, 1) := by decide +kernel
theorem dX10_tryOut_0 : decode cX10_tryOut 0 = .ok (.aload_n 0, 1) := by decide +kernel
theorem dX10_tryOut_1 : decode cX10_tryOut 1 = .ok (.getfield 36, 3) := by decide +kernel
theorem dX10_tryOut_4 : decode cX10_tryOut 4 = .ok (.iconst 0, 1) := by decide +kernel
theorem dX10_tryOut_5 : decode cX10_tryOut 5 = .ok (.aload_n 0, 1) := by decide +kernel
theorem dX10_tryOut_6 : decode cX10_tryOut 6 = .ok (.getfield 39, 3) := by decide +kernel
theorem dX10_tryOut_9 : decode cX10_tryOut 9 = .ok (.iconst 0, 1) := by decide +kernel
theorem dX10_tryOut_10 : decode cX10_tryOut 10 = .ok (.sipush 594, 3) := by decide +kernel
theorem dX10_tryOut_13 : decode cX10_tryOut 13 = .ok (.invokestatic 151, 3) := by decide +kernel
theorem dX10_tryOut_16 : decode cX10_tryOut 16 = .ok (.aload_n 0, 1) := by decide +kernel
theorem dX10_tryOut_17 : decode cX10_tryOut 17 = .ok (.iconst 0, 1) := by decide +kernel
theorem dX10_tryOut_18 : decode cX10_tryOut 18 = .ok (.putfield 275, 3) := by decide +kernel
theorem dX10_tryOut_21 : decode cX10_tryOut 21 = .ok (.iconst 0, 1) := by decide +kernel
theorem dX10_tryOut_22 : decode cX10_tryOut 22 = .ok (.istore_n 2, 1) := by decide +kernel
theorem dX10_tryOut_23 : decode cX10_tryOut 23 = .ok (.iload_n 2, 1) := by decide +kernel
theorem dX10_tryOut_24 : decode cX10_tryOut 24 = .ok (.iload_n 1, 1) := by decide +kernel
theorem dX10_tryOut_25 : decode cX10_tryOut 25 = .ok (.if_icmp .ge 58, 3) := by decide +kernel
theorem dX10_tryOut_28 : decode cX10_tryOut 28 = .ok (.aload_n 0, 1) := by decide +kernel
theorem dX10_tryOut_29 : decode cX10_tryOut 29 = .ok (.aload_n 0, 1) := by decide +kernel
theorem dX10_tryOut_30 : decode cX10_tryOut 30 = .ok (.aload_n 0, 1) := by decide +kernel
theorem dX10_tryOut_31 : decode cX10_tryOut 31 = .ok (.getfield 39, 3) := by decide +kernel
theorem dX10_tryOut_34 : decode cX10_tryOut 34 = .ok (.aload_n 0, 1) := by decide +kernel
theorem dX10_tryOut_35 : decode cX10_tryOut 35 = .ok (.getfield 42, 3) := by decide +kernel
theorem dX10_tryOut_38 : decode cX10_tryOut 38 = .ok (.iconst 3, 1) := by decide +kernel
theorem dX10_tryOut_39 : decode cX10_tryOut 39 = .ok (.iload_n 2, 1) := by decide +kernel
theorem dX10_tryOut_40 : decode cX10_tryOut 40 = .ok (.imul, 1) := by decide +kernel
theorem dX10_tryOut_41 : decode cX10_tryOut 41 = .ok (.iaload, 1) := by decide +kernel
theorem dX10_tryOut_42 : decode cX10_tryOut 42 = .ok (.aload_n 0, 1) := by decide +kernel
theorem dX10_tryOut_43 : decode cX10_tryOut 43 = .ok (.getfield 42, 3) := by decide +kernel
theorem dX10_tryOut_46 : decode cX10_tryOut 46 = .ok (.iconst 3, 1) := by decide +kernel
theorem dX10_tryOut_47 : decode cX10_tryOut 47 = .ok (.iload_n 2, 1) := by decide +kernel
theorem dX10_tryOut_48 : decode cX10_tryOut 48 = .ok (.imul, 1) := by decide +kernel
theorem dX10_tryOut_49 : decode cX10_tryOut 49 = .ok (.iconst 1, 1) := by decide +kernel
theorem dX10_tryOut_50 : decode cX10_tryOut 50 = .ok (.iadd, 1) := by decide +kernel
theorem dX10_tryOut_51 : decode cX10_tryOut 51 = .ok (.iaload, 1) := by decide +kernel
theorem dX10_tryOut_52 : decode cX10_tryOut 52 = .ok (.aload_n 0, 1) := by decide +kernel
theorem dX10_tryOut_53 : decode cX10_tryOut 53 = .ok (.getfield 42, 3) := by decide +kernel
theorem dX10_tryOut_56 : decode cX10_tryOut 56 = .ok (.iconst 3, 1) := by decide +kernel
theorem dX10_tryOut_57 : decode cX10_tryOut 57 = .ok (.iload_n 2, 1) := by decide +kernel
theorem dX10_tryOut_58 : decode cX10_tryOut 58 = .ok (.imul, 1) := by decide +kernel
theorem dX10_tryOut_59 : decode cX10_tryOut 59 = .ok (.iconst 2, 1) := by decide +kernel
theorem dX10_tryOut_60 : decode cX10_tryOut 60 = .ok (.iadd, 1) := by decide +kernel
theorem dX10_tryOut_61 : decode cX10_tryOut 61 = .ok (.iaload, 1) := by decide +kernel
theorem dX10_tryOut_62 : decode cX10_tryOut 62 = .ok (.invokevirtual 278, 3) := by decide +kernel
theorem dX10_tryOut_65 : decode cX10_tryOut 65 = .ok (.putfield 275, 3) := by decide +kernel
theorem dX10_tryOut_68 : decode cX10_tryOut 68 = .ok (.aload_n 0, 1) := by decide +kernel
theorem dX10_tryOut_69 : decode cX10_tryOut 69 = .ok (.getfield 275, 3) := by decide +kernel
theorem dX10_tryOut_72 : decode cX10_tryOut 72 = .ok (.ifCond .eq 5, 3) := by decide +kernel
theorem dX10_tryOut_75 : decode cX10_tryOut 75 = .ok (.iload_n 2, 1) := by decide +kernel
theorem dX10_tryOut_76 : decode cX10_tryOut 76 = .ok (.ireturn, 1) := by decide +kernel
theorem dX10_tryOut_77 : decode cX10_tryOut 77 = .ok (.iinc 2 1, 3) := by decide +kernel
theorem dX10_tryOut_80 : decode cX10_tryOut 80 = .ok (.goto (-57), 3) := by decide +kernel
theorem dX10_tryOut_83 : decode cX10_tryOut 83 = .ok (.iconst (-1), 1) := by decide +kernel
theorem dX10_tryOut_84 : decode cX10_tryOut 84 = .ok (.ireturn, 1) := by decide +kernel
theorem dX10_check_0 : decode cX10_check 0 = .ok (.aload_n 0, 1) := by decide +kernel
theorem dX10_check_1 : decode cX10_check 1 = .ok (.iconst 0, 1) := by decide +kernel
theorem dX10_check_2 : decode cX10_check 2 = .ok (.putfield 71, 3) := by decide +kernel
theorem dX10_check_5 : decode cX10_check 5 = .ok (.aload_n 0, 1) := by decide +kernel
theorem dX10_check_6 : decode cX10_check 6 = .ok (.aload_n 0, 1) := by decide +kernel
theorem dX10_check_7 : decode cX10_check 7 = .ok (.getfield 249, 3) := by decide +kernel
theorem dX10_check_10 : decode cX10_check 10 = .ok (.invokevirtual 282, 3) := by decide +kernel
theorem dX10_check_13 : decode cX10_check 13 = .ok (.ireturn, 1) := by decide +kernel
theorem dX10_reason_0 : decode cX10_reason 0 = .ok (.aload_n 0, 1) := by decide +kernel
theorem dX10_reason_1 : decode cX10_reason 1 = .ok (.iconst 0, 1) := by decide +kernel
theorem dX10_reason_2 : decode cX10_reason 2 = .ok (.putfield 71, 3) := by decide +kernel
theorem dX10_reason_5 : decode cX10_reason 5 = .ok (.aload_n 0, 1) := by decide +kernel
theorem dX10_reason_6 : decode cX10_reason 6 = .ok (.aload_n 0, 1) := by decide +kernel
theorem dX10_reason_7 : decode cX10_reason 7 = .ok (.getfield 249, 3) := by decide +kernel
theorem dX10_reason_10 : decode cX10_reason 10 = .ok (.invokevirtual 282, 3) := by decide +kernel
theorem dX10_reason_13 : decode cX10_reason 13 = .ok (.istore_n 1, 1) := by decide +kernel
theorem dX10_reason_14 : decode cX10_reason 14 = .ok (.iload_n 1, 1) := by decide +kernel
theorem dX10_reason_15 : decode cX10_reason 15 = .ok (.iconst (-1), 1) := by decide +kernel
theorem dX10_reason_16 : decode cX10_reason 16 = .ok (.if_icmp .ne 7, 3) := by decide +kernel
theorem dX10_reason_19 : decode cX10_reason 19 = .ok (.iconst 0, 1) := by decide +kernel
theorem dX10_reason_20 : decode cX10_reason 20 = .ok (.goto 7, 3) := by decide +kernel
theorem dX10_reason_23 : decode cX10_reason 23 = .ok (.aload_n 0, 1) := by decide +kernel
theorem dX10_reason_24 : decode cX10_reason 24 = .ok (.getfield 275, 3) := by decide +kernel
theorem dX10_reason_27 : decode cX10_reason 27 = .ok (.ireturn, 1) := by decide +kernel
theorem dX10_foretell_0 : decode cX10_foretell 0 = .ok (.aload_n 0, 1) := by decide +kernel
theorem dX10_foretell_1 : decode cX10_foretell 1 = .ok (.iconst 0, 1) := by decide +kernel
theorem dX10_foretell_2 : decode cX10_foretell 2 = .ok (.putfield 71, 3) := by decide +kernel
theorem dX10_foretell_5 : decode cX10_foretell 5 = .ok (.iload_n 2, 1) := by decide +kernel
theorem dX10_foretell_6 : decode cX10_foretell 6 = .ok (.iconst 0, 1) := by decide +kernel
theorem dX10_foretell_7 : decode cX10_foretell 7 = .ok (.bipush 9, 2) := by decide +kernel
theorem dX10_foretell_9 : decode cX10_foretell 9 = .ok (.invokestatic 74, 3) := by decide +kernel
theorem dX10_foretell_12 : decode cX10_foretell 12 = .ok (.ifCond .ne 9, 3) := by decide +kernel
theorem dX10_foretell_15 : decode cX10_foretell 15 = .ok (.aload_n 0, 1) := by decide +kernel
theorem dX10_foretell_16 : decode cX10_foretell 16 = .ok (.iconst 1, 1) := by decide +kernel
theorem dX10_foretell_17 : decode cX10_foretell 17 = .ok (.invokevirtual 89, 3) := by decide +kernel
theorem dX10_foretell_20 : decode cX10_foretell 20 = .ok (.ireturn, 1) := by decide +kernel
theorem dX10_foretell_21 : decode cX10_foretell 21 = .ok (.iload_n 1, 1) := by decide +kernel
theorem dX10_foretell_22 : decode cX10_foretell 22 = .ok (.iconst 0, 1) := by decide +kernel
theorem dX10_foretell_23 : decode cX10_foretell 23 = .ok (.aload_n 0, 1) := by decide +kernel
theorem dX10_foretell_24 : decode cX10_foretell 24 = .ok (.getfield 249, 3) := by decide +kernel
theorem dX10_foretell_27 : decode cX10_foretell 27 = .ok (.invokestatic 74, 3) := by decide +kernel
theorem dX10_foretell_30 : decode cX10_foretell 30 = .ok (.ifCond .ne 9, 3) := by decide +kernel
theorem dX10_foretell_33 : decode cX10_foretell 33 = .ok (.aload_n 0, 1) := by decide +kernel
theorem dX10_foretell_34 : decode cX10_foretell 34 = .ok (.iconst 2, 1) := by decide +kernel
theorem dX10_foretell_35 : decode cX10_foretell 35 = .ok (.invokevirtual 89, 3) := by decide +kernel
theorem dX10_foretell_38 : decode cX10_foretell 38 = .ok (.ireturn, 1) := by decide +kernel
theorem dX10_foretell_39 : decode cX10_foretell 39 = .ok (.aload_n 0, 1) := by decide +kernel
theorem dX10_foretell_40 : decode cX10_foretell 40 = .ok (.iload_n 1, 1) := by decide +kernel
theorem dX10_foretell_41 : decode cX10_foretell 41 = .ok (.invokevirtual 282, 3) := by decide +kernel
theorem dX10_foretell_44 : decode cX10_foretell 44 = .ok (.iconst (-1), 1) := by decide +kernel
theorem dX10_foretell_45 : decode cX10_foretell 45 = .ok (.if_icmp .ne 14, 3) := by decide +kernel
theorem dX10_foretell_48 : decode cX10_foretell 48 = .ok (.aload_n 0, 1) := by decide +kernel
theorem dX10_foretell_49 : decode cX10_foretell 49 = .ok (.getfield 39, 3) := by decide +kernel
theorem dX10_foretell_52 : decode cX10_foretell 52 = .ok (.iload_n 2, 1) := by decide +kernel
theorem dX10_foretell_53 : decode cX10_foretell 53 = .ok (.invokestatic 207, 3) := by decide +kernel
theorem dX10_foretell_56 : decode cX10_foretell 56 = .ok (.goto 8, 3) := by decide +kernel
theorem dX10_foretell_59 : decode cX10_foretell 59 = .ok (.aload_n 0, 1) := by decide +kernel
theorem dX10_foretell_60 : decode cX10_foretell 60 = .ok (.iconst 3, 1) := by decide +kernel
theorem dX10_foretell_61 : decode cX10_foretell 61 = .ok (.invokevirtual 89, 3) := by decide +kernel
theorem dX10_foretell_64 : decode cX10_foretell 64 = .ok (.ireturn, 1) := by decide +kernel
theorem dX10_run_0 : decode cX10_run 0 = .ok (.aload_n 0, 1) := by decide +kernel
theorem dX10_run_1 : decode cX10_run 1 = .ok (.iconst 0, 1) := by decide +kernel
theorem dX10_run_2 : decode cX10_run 2 = .ok (.putfield 71, 3) := by decide +kernel
theorem dX10_run_5 : decode cX10_run 5 = .ok (.iload_n 1, 1) := by decide +kernel
theorem dX10_run_6 : decode cX10_run 6 = .ok (.iconst 1, 1) := by decide +kernel
theorem dX10_run_7 : decode cX10_run 7 = .ok (.bipush 40, 2) := by decide +kernel
theorem dX10_run_9 : decode cX10_run 9 = .ok (.invokestatic 74, 3) := by decide +kernel
theorem dX10_run_12 : decode cX10_run 12 = .ok (.ifCond .ne 9, 3) := by decide +kernel
theorem dX10_run_15 : decode cX10_run 15 = .ok (.aload_n 0, 1) := by decide +kernel
theorem dX10_run_16 : decode cX10_run 16 = .ok (.iconst 1, 1) := by decide +kernel
theorem dX10_run_17 : decode cX10_run 17 = .ok (.invokevirtual 89, 3) := by decide +kernel
theorem dX10_run_20 : decode cX10_run 20 = .ok (.ireturn, 1) := by decide +kernel
theorem dX10_run_21 : decode cX10_run 21 = .ok (.iconst 0, 1) := by decide +kernel
theorem dX10_run_22 : decode cX10_run 22 = .ok (.istore_n 2, 1) := by decide +kernel
theorem dX10_run_23 : decode cX10_run 23 = .ok (.iload_n 2, 1) := by decide +kernel
theorem dX10_run_24 : decode cX10_run 24 = .ok (.iload_n 1, 1) := by decide +kernel
theorem dX10_run_25 : decode cX10_run 25 = .ok (.if_icmp .ge 50, 3) := by decide +kernel
theorem dX10_run_28 : decode cX10_run 28 = .ok (.aload_n 0, 1) := by decide +kernel
theorem dX10_run_29 : decode cX10_run 29 = .ok (.getfield 249, 3) := by decide +kernel
theorem dX10_run_32 : decode cX10_run 32 = .ok (.ifCond .le 43, 3) := by decide +kernel
theorem dX10_run_35 : decode cX10_run 35 = .ok (.aload_n 0, 1) := by decide +kernel
theorem dX10_run_36 : decode cX10_run 36 = .ok (.aload_n 0, 1) := by decide +kernel
theorem dX10_run_37 : decode cX10_run 37 = .ok (.getfield 36, 3) := by decide +kernel
theorem dX10_run_40 : decode cX10_run 40 = .ok (.aload_n 0, 1) := by decide +kernel
theorem dX10_run_41 : decode cX10_run 41 = .ok (.getfield 42, 3) := by decide +kernel
theorem dX10_run_44 : decode cX10_run 44 = .ok (.iconst 0, 1) := by decide +kernel
theorem dX10_run_45 : decode cX10_run 45 = .ok (.iaload, 1) := by decide +kernel
theorem dX10_run_46 : decode cX10_run 46 = .ok (.aload_n 0, 1) := by decide +kernel
theorem dX10_run_47 : decode cX10_run 47 = .ok (.getfield 42, 3) := by decide +kernel
theorem dX10_run_50 : decode cX10_run 50 = .ok (.iconst 1, 1) := by decide +kernel
theorem dX10_run_51 : decode cX10_run 51 = .ok (.iaload, 1) := by decide +kernel
theorem dX10_run_52 : decode cX10_run 52 = .ok (.aload_n 0, 1) := by decide +kernel
theorem dX10_run_53 : decode cX10_run 53 = .ok (.getfield 42, 3) := by decide +kernel
theorem dX10_run_56 : decode cX10_run 56 = .ok (.iconst 2, 1) := by decide +kernel
theorem dX10_run_57 : decode cX10_run 57 = .ok (.iaload, 1) := by decide +kernel
theorem dX10_run_58 : decode cX10_run 58 = .ok (.invokevirtual 278, 3) := by decide +kernel
theorem dX10_run_61 : decode cX10_run 61 = .ok (.ifCond .ne 14, 3) := by decide +kernel
theorem dX10_run_64 : decode cX10_run 64 = .ok (.aload_n 0, 1) := by decide +kernel
theorem dX10_run_65 : decode cX10_run 65 = .ok (.iconst 0, 1) := by decide +kernel
theorem dX10_run_66 : decode cX10_run 66 = .ok (.invokevirtual 265, 3) := by decide +kernel
theorem dX10_run_69 : decode cX10_run 69 = .ok (.iinc 2 1, 3) := by decide +kernel
theorem dX10_run_72 : decode cX10_run 72 = .ok (.goto (-49), 3) := by decide +kernel
theorem dX10_run_75 : decode cX10_run 75 = .ok (.iload_n 2, 1) := by decide +kernel
theorem dX10_run_76 : decode cX10_run 76 = .ok (.ireturn, 1) := by decide +kernel
theorem dX10_serves_0 : decode cX10_serves 0 = .ok (.aload_n 0, 1) := by decide +kernel
theorem dX10_serves_1 : decode cX10_serves 1 = .ok (.getfield 24, 3) := by decide +kernel
theorem dX10_serves_4 : decode cX10_serves 4 = .ok (.iconst 4, 1) := by decide +kernel
theorem dX10_serves_5 : decode cX10_serves 5 = .ok (.iload_n 2, 1) := by decide +kernel
theorem dX10_serves_6 : decode cX10_serves 6 = .ok (.imul, 1) := by decide +kernel
theorem dX10_serves_7 : decode cX10_serves 7 = .ok (.iaload, 1) := by decide +kernel
theorem dX10_serves_8 : decode cX10_serves 8 = .ok (.istore 5, 2) := by decide +kernel
theorem dX10_serves_10 : decode cX10_serves 10 = .ok (.aload_n 0, 1) := by decide +kernel
theorem dX10_serves_11 : decode cX10_serves 11 = .ok (.getfield 24, 3) := by decide +kernel
theorem dX10_serves_14 : decode cX10_serves 14 = .ok (.iconst 4, 1) := by decide +kernel
theorem dX10_serves_15 : decode cX10_serves 15 = .ok (.iload_n 2, 1) := by decide +kernel
theorem dX10_serves_16 : decode cX10_serves 16 = .ok (.imul, 1) := by decide +kernel
theorem dX10_serves_17 : decode cX10_serves 17 = .ok (.iconst 1, 1) := by decide +kernel
theorem dX10_serves_18 : decode cX10_serves 18 = .ok (.iadd, 1) := by decide +kernel
theorem dX10_serves_19 : decode cX10_serves 19 = .ok (.iaload, 1) := by decide +kernel
theorem dX10_serves_20 : decode cX10_serves 20 = .ok (.istore 6, 2) := by decide +kernel
theorem dX10_serves_22 : decode cX10_serves 22 = .ok (.aload_n 0, 1) := by decide +kernel
theorem dX10_serves_23 : decode cX10_serves 23 = .ok (.iload_n 2, 1) := by decide +kernel
theorem dX10_serves_24 : decode cX10_serves 24 = .ok (.invokevirtual 157, 3) := by decide +kernel
theorem dX10_serves_27 : decode cX10_serves 27 = .ok (.iconst 4, 1) := by decide +kernel
theorem dX10_serves_28 : decode cX10_serves 28 = .ok (.if_icmp .ne 23, 3) := by decide +kernel
theorem dX10_serves_31 : decode cX10_serves 31 = .ok (.iload_n 3, 1) := by decide +kernel
theorem dX10_serves_32 : decode cX10_serves 32 = .ok (.iload 4, 2) := by decide +kernel
theorem dX10_serves_34 : decode cX10_serves 34 = .ok (.iload 5, 2) := by decide +kernel
theorem dX10_serves_36 : decode cX10_serves 36 = .ok (.iload 6, 2) := by decide +kernel
theorem dX10_serves_38 : decode cX10_serves 38 = .ok (.invokestatic 136, 3) := by decide +kernel
theorem dX10_serves_41 : decode cX10_serves 41 = .ok (.iconst 2, 1) := by decide +kernel
theorem dX10_serves_42 : decode cX10_serves 42 = .ok (.if_icmp .ge 7, 3) := by decide +kernel
theorem dX10_serves_45 : decode cX10_serves 45 = .ok (.iconst 1, 1) := by decide +kernel
theorem dX10_serves_46 : decode cX10_serves 46 = .ok (.goto 4, 3) := by decide +kernel
theorem dX10_serves_49 : decode cX10_serves 49 = .ok (.iconst 0, 1) := by decide +kernel
theorem dX10_serves_50 : decode cX10_serves 50 = .ok (.ireturn, 1) := by decide +kernel
theorem dX10_serves_51 : decode cX10_serves 51 = .ok (.iload_n 3, 1) := by decide +kernel
theorem dX10_serves_52 : decode cX10_serves 52 = .ok (.iload 4, 2) := by decide +kernel
theorem dX10_serves_54 : decode cX10_serves 54 = .ok (.iload 5, 2) := by decide +kernel
theorem dX10_serves_56 : decode cX10_serves 56 = .ok (.iload 6, 2) := by decide +kernel
theorem dX10_serves_58 : decode cX10_serves 58 = .ok (.invokestatic 136, 3) := by decide +kernel
theorem dX10_serves_61 : decode cX10_serves 61 = .ok (.bipush 7, 2) := by decide +kernel
theorem dX10_serves_63 : decode cX10_serves 63 = .ok (.if_icmp .ge 42, 3) := by decide +kernel
theorem dX10_serves_66 : decode cX10_serves 66 = .ok (.aload_n 1, 1) := by decide +kernel
theorem dX10_serves_67 : decode cX10_serves 67 = .ok (.iload_n 2, 1) := by decide +kernel
theorem dX10_serves_68 : decode cX10_serves 68 = .ok (.invokestatic 164, 3) := by decide +kernel
theorem dX10_serves_71 : decode cX10_serves 71 = .ok (.iload_n 3, 1) := by decide +kernel
theorem dX10_serves_72 : decode cX10_serves 72 = .ok (.iload 4, 2) := by decide +kernel
theorem dX10_serves_74 : decode cX10_serves 74 = .ok (.iload 5, 2) := by decide +kernel
theorem dX10_serves_76 : decode cX10_serves 76 = .ok (.iload 6, 2) := by decide +kernel
theorem dX10_serves_78 : decode cX10_serves 78 = .ok (.invokestatic 222, 3) := by decide +kernel
theorem dX10_serves_81 : decode cX10_serves 81 = .ok (.ishr, 1) := by decide +kernel
theorem dX10_serves_82 : decode cX10_serves 82 = .ok (.iconst 1, 1) := by decide +kernel
theorem dX10_serves_83 : decode cX10_serves 83 = .ok (.iand, 1) := by decide +kernel
theorem dX10_serves_84 : decode cX10_serves 84 = .ok (.ifCond .ne 21, 3) := by decide +kernel
theorem dX10_serves_87 : decode cX10_serves 87 = .ok (.aload_n 0, 1) := by decide +kernel
theorem dX10_serves_88 : decode cX10_serves 88 = .ok (.iload_n 3, 1) := by decide +kernel
theorem dX10_serves_89 : decode cX10_serves 89 = .ok (.iload 4, 2) := by decide +kernel
theorem dX10_serves_91 : decode cX10_serves 91 = .ok (.iload 5, 2) := by decide +kernel
theorem dX10_serves_93 : decode cX10_serves 93 = .ok (.iload 6, 2) := by decide +kernel
theorem dX10_serves_95 : decode cX10_serves 95 = .ok (.invokevirtual 148, 3) := by decide +kernel
theorem dX10_serves_98 : decode cX10_serves 98 = .ok (.ifCond .eq 7, 3) := by decide +kernel
theorem dX10_serves_101 : decode cX10_serves 101 = .ok (.iconst 1, 1) := by decide +kernel
theorem dX10_serves_102 : decode cX10_serves 102 = .ok (.goto 4, 3) := by decide +kernel
theorem dX10_serves_105 : decode cX10_serves 105 = .ok (.iconst 0, 1) := by decide +kernel
theorem dX10_serves_106 : decode cX10_serves 106 = .ok (.ireturn, 1) := by decide +kernel
theorem dX10_nearestFor_0 : decode cX10_nearestFor 0 = .ok (.aload_n 0, 1) := by decide +kernel
theorem dX10_nearestFor_1 : decode cX10_nearestFor 1 = .ok (.aload_n 1, 1) := by decide +kernel
theorem dX10_nearestFor_2 : decode cX10_nearestFor 2 = .ok (.iload_n 2, 1) := by decide +kernel
theorem dX10_nearestFor_3 : decode cX10_nearestFor 3 = .ok (.iconst 0, 1) := by decide +kernel
theorem dX10_nearestFor_4 : decode cX10_nearestFor 4 = .ok (.invokevirtual 174, 3) := by decide +kernel
theorem dX10_nearestFor_7 : decode cX10_nearestFor 7 = .ok (.ifCond .eq 5, 3) := by decide +kernel
theorem dX10_nearestFor_10 : decode cX10_nearestFor 10 = .ok (.iconst (-1), 1) := by decide +kernel
theorem dX10_nearestFor_11 : decode cX10_nearestFor 11 = .ok (.ireturn, 1) := by decide +kernel
theorem dX10_nearestFor_12 : decode cX10_nearestFor 12 = .ok (.iconst (-1), 1) := by decide +kernel
theorem dX10_nearestFor_13 : decode cX10_nearestFor 13 = .ok (.istore_n 3, 1) := by decide +kernel
theorem dX10_nearestFor_14 : decode cX10_nearestFor 14 = .ok (.iconst 0, 1) := by decide +kernel
theorem dX10_nearestFor_15 : decode cX10_nearestFor 15 = .ok (.istore 4, 2) := by decide +kernel
theorem dX10_nearestFor_17 : decode cX10_nearestFor 17 = .ok (.iload 4, 2) := by decide +kernel
theorem dX10_nearestFor_19 : decode cX10_nearestFor 19 = .ok (.sipush 576, 3) := by decide +kernel
theorem dX10_nearestFor_22 : decode cX10_nearestFor 22 = .ok (.if_icmp .ge 64, 3) := by decide +kernel
theorem dX10_nearestFor_25 : decode cX10_nearestFor 25 = .ok (.aload_n 0, 1) := by decide +kernel
theorem dX10_nearestFor_26 : decode cX10_nearestFor 26 = .ok (.getfield 56, 3) := by decide +kernel
theorem dX10_nearestFor_29 : decode cX10_nearestFor 29 = .ok (.iload 4, 2) := by decide +kernel
theorem dX10_nearestFor_31 : decode cX10_nearestFor 31 = .ok (.iaload, 1) := by decide +kernel
theorem dX10_nearestFor_32 : decode cX10_nearestFor 32 = .ok (.ldc 122, 2) := by decide +kernel
theorem dX10_nearestFor_34 : decode cX10_nearestFor 34 = .ok (.if_icmp .ge 46, 3) := by decide +kernel
theorem dX10_nearestFor_37 : decode cX10_nearestFor 37 = .ok (.iload_n 3, 1) := by decide +kernel
theorem dX10_nearestFor_38 : decode cX10_nearestFor 38 = .ok (.iconst (-1), 1) := by decide +kernel
theorem dX10_nearestFor_39 : decode cX10_nearestFor 39 = .ok (.if_icmp .eq 19, 3) := by decide +kernel
theorem dX10_nearestFor_42 : decode cX10_nearestFor 42 = .ok (.aload_n 0, 1) := by decide +kernel
theorem dX10_nearestFor_43 : decode cX10_nearestFor 43 = .ok (.getfield 56, 3) := by decide +kernel
theorem dX10_nearestFor_46 : decode cX10_nearestFor 46 = .ok (.iload 4, 2) := by decide +kernel
theorem dX10_nearestFor_48 : decode cX10_nearestFor 48 = .ok (.iaload, 1) := by decide +kernel
theorem dX10_nearestFor_49 : decode cX10_nearestFor 49 = .ok (.aload_n 0, 1) := by decide +kernel
theorem dX10_nearestFor_50 : decode cX10_nearestFor 50 = .ok (.getfield 56, 3) := by decide +kernel
theorem dX10_nearestFor_53 : decode cX10_nearestFor 53 = .ok (.iload_n 3, 1) := by decide +kernel
theorem dX10_nearestFor_54 : decode cX10_nearestFor 54 = .ok (.iaload, 1) := by decide +kernel
theorem dX10_nearestFor_55 : decode cX10_nearestFor 55 = .ok (.if_icmp .ge 25, 3) := by decide +kernel
theorem dX10_nearestFor_58 : decode cX10_nearestFor 58 = .ok (.aload_n 0, 1) := by decide +kernel
theorem dX10_nearestFor_59 : decode cX10_nearestFor 59 = .ok (.aload_n 1, 1) := by decide +kernel
theorem dX10_nearestFor_60 : decode cX10_nearestFor 60 = .ok (.iload_n 2, 1) := by decide +kernel
theorem dX10_nearestFor_61 : decode cX10_nearestFor 61 = .ok (.iload 4, 2) := by decide +kernel
theorem dX10_nearestFor_63 : decode cX10_nearestFor 63 = .ok (.bipush 24, 2) := by decide +kernel
theorem dX10_nearestFor_65 : decode cX10_nearestFor 65 = .ok (.irem, 1) := by decide +kernel
theorem dX10_nearestFor_66 : decode cX10_nearestFor 66 = .ok (.iload 4, 2) := by decide +kernel
theorem dX10_nearestFor_68 : decode cX10_nearestFor 68 = .ok (.bipush 24, 2) := by decide +kernel
theorem dX10_nearestFor_70 : decode cX10_nearestFor 70 = .ok (.idiv, 1) := by decide +kernel
theorem dX10_nearestFor_71 : decode cX10_nearestFor 71 = .ok (.invokevirtual 285, 3) := by decide +kernel
theorem dX10_nearestFor_74 : decode cX10_nearestFor 74 = .ok (.ifCond .eq 6, 3) := by decide +kernel
theorem dX10_nearestFor_77 : decode cX10_nearestFor 77 = .ok (.iload 4, 2) := by decide +kernel
theorem dX10_nearestFor_79 : decode cX10_nearestFor 79 = .ok (.istore_n 3, 1) := by decide +kernel
theorem dX10_nearestFor_80 : decode cX10_nearestFor 80 = .ok (.iinc 4 1, 3) := by decide +kernel
theorem dX10_nearestFor_83 : decode cX10_nearestFor 83 = .ok (.goto (-66), 3) := by decide +kernel
theorem dX10_nearestFor_86 : decode cX10_nearestFor 86 = .ok (.iload_n 3, 1) := by decide +kernel
theorem dX10_nearestFor_87 : decode cX10_nearestFor 87 = .ok (.ireturn, 1) := by decide +kernel
theorem dX10_makeOne_0 : decode cX10_makeOne 0 = .ok (.aload_n 0, 1) := by decide +kernel
theorem dX10_makeOne_1 : decode cX10_makeOne 1 = .ok (.getfield 249, 3) := by decide +kernel
theorem dX10_makeOne_4 : decode cX10_makeOne 4 = .ok (.iconst 2, 1) := by decide +kernel
theorem dX10_makeOne_5 : decode cX10_makeOne 5 = .ok (.iadd, 1) := by decide +kernel
theorem dX10_makeOne_6 : decode cX10_makeOne 6 = .ok (.bipush 40, 2) := by decide +kernel
theorem dX10_makeOne_8 : decode cX10_makeOne 8 = .ok (.if_icmp .le 5, 3) := by decide +kernel
theorem dX10_makeOne_11 : decode cX10_makeOne 11 = .ok (.iconst 0, 1) := by decide +kernel
theorem dX10_makeOne_12 : decode cX10_makeOne 12 = .ok (.ireturn, 1) := by decide +kernel
theorem dX10_makeOne_13 : decode cX10_makeOne 13 = .ok (.aload_n 0, 1) := by decide +kernel
theorem dX10_makeOne_14 : decode cX10_makeOne 14 = .ok (.aload_n 0, 1) := by decide +kernel
theorem dX10_makeOne_15 : decode cX10_makeOne 15 = .ok (.getfield 39, 3) := by decide +kernel
theorem dX10_makeOne_18 : decode cX10_makeOne 18 = .ok (.iconst 1, 1) := by decide +kernel
theorem dX10_makeOne_19 : decode cX10_makeOne 19 = .ok (.iaload, 1) := by decide +kernel
theorem dX10_makeOne_20 : decode cX10_makeOne 20 = .ok (.aload_n 0, 1) := by decide +kernel
theorem dX10_makeOne_21 : decode cX10_makeOne 21 = .ok (.getfield 39, 3) := by decide +kernel
theorem dX10_makeOne_24 : decode cX10_makeOne 24 = .ok (.iconst 2, 1) := by decide +kernel
theorem dX10_makeOne_25 : decode cX10_makeOne 25 = .ok (.iaload, 1) := by decide +kernel
theorem dX10_makeOne_26 : decode cX10_makeOne 26 = .ok (.iconst 0, 1) := by decide +kernel
theorem dX10_makeOne_27 : decode cX10_makeOne 27 = .ok (.invokevirtual 126, 3) := by decide +kernel
theorem dX10_makeOne_30 : decode cX10_makeOne 30 = .ok (.iconst (-1), 1) := by decide +kernel
theorem dX10_makeOne_31 : decode cX10_makeOne 31 = .ok (.istore 4, 2) := by decide +kernel
theorem dX10_makeOne_33 : decode cX10_makeOne 33 = .ok (.iconst (-1), 1) := by decide +kernel
theorem dX10_makeOne_34 : decode cX10_makeOne 34 = .ok (.istore 5, 2) := by decide +kernel
theorem dX10_makeOne_36 : decode cX10_makeOne 36 = .ok (.iconst 0, 1) := by decide +kernel
theorem dX10_makeOne_37 : decode cX10_makeOne 37 = .ok (.istore 6, 2) := by decide +kernel
theorem dX10_makeOne_39 : decode cX10_makeOne 39 = .ok (.iconst 0, 1) := by decide +kernel
theorem dX10_makeOne_40 : decode cX10_makeOne 40 = .ok (.istore 7, 2) := by decide +kernel
theorem dX10_makeOne_42 : decode cX10_makeOne 42 = .ok (.iload 7, 2) := by decide +kernel
theorem dX10_makeOne_44 : decode cX10_makeOne 44 = .ok (.aload_n 0, 1) := by decide +kernel
theorem dX10_makeOne_45 : decode cX10_makeOne 45 = .ok (.getfield 78, 3) := by decide +kernel
theorem dX10_makeOne_48 : decode cX10_makeOne 48 = .ok (.if_icmp .ge 91, 3) := by decide +kernel
theorem dX10_makeOne_51 : decode cX10_makeOne 51 = .ok (.aload_n 3, 1) := by decide +kernel
theorem dX10_makeOne_52 : decode cX10_makeOne 52 = .ok (.iload 7, 2) := by decide +kernel
theorem dX10_makeOne_54 : decode cX10_makeOne 54 = .ok (.baload, 1) := by decide +kernel
theorem dX10_makeOne_55 : decode cX10_makeOne 55 = .ok (.ifCond .eq 7, 3) := by decide +kernel
theorem dX10_makeOne_58 : decode cX10_makeOne 58 = .ok (.iconst (-1), 1) := by decide +kernel
theorem dX10_makeOne_59 : decode cX10_makeOne 59 = .ok (.goto 13, 3) := by decide +kernel
theorem dX10_makeOne_62 : decode cX10_makeOne 62 = .ok (.aload_n 0, 1) := by decide +kernel
theorem dX10_makeOne_63 : decode cX10_makeOne 63 = .ok (.aload_n 0, 1) := by decide +kernel
theorem dX10_makeOne_64 : decode cX10_makeOne 64 = .ok (.getfield 39, 3) := by decide +kernel
theorem dX10_makeOne_67 : decode cX10_makeOne 67 = .ok (.iload 7, 2) := by decide +kernel
theorem dX10_makeOne_69 : decode cX10_makeOne 69 = .ok (.invokevirtual 289, 3) := by decide +kernel
theorem dX10_makeOne_72 : decode cX10_makeOne 72 = .ok (.istore 8, 2) := by decide +kernel
theorem dX10_makeOne_74 : decode cX10_makeOne 74 = .ok (.iload 8, 2) := by decide +kernel
theorem dX10_makeOne_76 : decode cX10_makeOne 76 = .ok (.iconst (-1), 1) := by decide +kernel
theorem dX10_makeOne_77 : decode cX10_makeOne 77 = .ok (.if_icmp .ne 6, 3) := by decide +kernel
theorem dX10_makeOne_80 : decode cX10_makeOne 80 = .ok (.goto 53, 3) := by decide +kernel
theorem dX10_makeOne_83 : decode cX10_makeOne 83 = .ok (.sipush 1000, 3) := by decide +kernel
theorem dX10_makeOne_86 : decode cX10_makeOne 86 = .ok (.aload_n 0, 1) := by decide +kernel
theorem dX10_makeOne_87 : decode cX10_makeOne 87 = .ok (.iload 7, 2) := by decide +kernel
theorem dX10_makeOne_89 : decode cX10_makeOne 89 = .ok (.invokevirtual 171, 3) := by decide +kernel
theorem dX10_makeOne_92 : decode cX10_makeOne 92 = .ok (.imul, 1) := by decide +kernel
theorem dX10_makeOne_93 : decode cX10_makeOne 93 = .ok (.iconst 1, 1) := by decide +kernel
theorem dX10_makeOne_94 : decode cX10_makeOne 94 = .ok (.aload_n 0, 1) := by decide +kernel
theorem dX10_makeOne_95 : decode cX10_makeOne 95 = .ok (.getfield 56, 3) := by decide +kernel
theorem dX10_makeOne_98 : decode cX10_makeOne 98 = .ok (.iload 8, 2) := by decide +kernel
theorem dX10_makeOne_100 : decode cX10_makeOne 100 = .ok (.iaload, 1) := by decide +kernel
theorem dX10_makeOne_101 : decode cX10_makeOne 101 = .ok (.iadd, 1) := by decide +kernel
theorem dX10_makeOne_102 : decode cX10_makeOne 102 = .ok (.idiv, 1) := by decide +kernel
theorem dX10_makeOne_103 : decode cX10_makeOne 103 = .ok (.istore 9, 2) := by decide +kernel
theorem dX10_makeOne_105 : decode cX10_makeOne 105 = .ok (.iload 4, 2) := by decide +kernel
theorem dX10_makeOne_107 : decode cX10_makeOne 107 = .ok (.iconst (-1), 1) := by decide +kernel
theorem dX10_makeOne_108 : decode cX10_makeOne 108 = .ok (.if_icmp .eq 13, 3) := by decide +kernel
theorem dX10_makeOne_111 : decode cX10_makeOne 111 = .ok (.iload 9, 2) := by decide +kernel
theorem dX10_makeOne_113 : decode cX10_makeOne 113 = .ok (.iload 6, 2) := by decide +kernel
theorem dX10_makeOne_115 : decode cX10_makeOne 115 = .ok (.if_icmp .gt 6, 3) := by decide +kernel
theorem dX10_makeOne_118 : decode cX10_makeOne 118 = .ok (.goto 15, 3) := by decide +kernel
theorem dX10_makeOne_121 : decode cX10_makeOne 121 = .ok (.iload 7, 2) := by decide +kernel
theorem dX10_makeOne_123 : decode cX10_makeOne 123 = .ok (.istore 4, 2) := by decide +kernel
theorem dX10_makeOne_125 : decode cX10_makeOne 125 = .ok (.iload 8, 2) := by decide +kernel
theorem dX10_makeOne_127 : decode cX10_makeOne 127 = .ok (.istore 5, 2) := by decide +kernel
theorem dX10_makeOne_129 : decode cX10_makeOne 129 = .ok (.iload 9, 2) := by decide +kernel
theorem dX10_makeOne_131 : decode cX10_makeOne 131 = .ok (.istore 6, 2) := by decide +kernel
theorem dX10_makeOne_133 : decode cX10_makeOne 133 = .ok (.iinc 7 1, 3) := by decide +kernel
theorem dX10_makeOne_136 : decode cX10_makeOne 136 = .ok (.goto (-94), 3) := by decide +kernel
theorem dX10_makeOne_139 : decode cX10_makeOne 139 = .ok (.iload 4, 2) := by decide +kernel
theorem dX10_makeOne_141 : decode cX10_makeOne 141 = .ok (.iconst (-1), 1) := by decide +kernel
theorem dX10_makeOne_142 : decode cX10_makeOne 142 = .ok (.if_icmp .ne 5, 3) := by decide +kernel
theorem dX10_makeOne_145 : decode cX10_makeOne 145 = .ok (.iconst 0, 1) := by decide +kernel
theorem dX10_makeOne_146 : decode cX10_makeOne 146 = .ok (.ireturn, 1) := by decide +kernel
theorem dX10_makeOne_147 : decode cX10_makeOne 147 = .ok (.aload_n 0, 1) := by decide +kernel
theorem dX10_makeOne_148 : decode cX10_makeOne 148 = .ok (.getfield 39, 3) := by decide +kernel
theorem dX10_makeOne_151 : decode cX10_makeOne 151 = .ok (.iconst 0, 1) := by decide +kernel
theorem dX10_makeOne_152 : decode cX10_makeOne 152 = .ok (.aload_n 0, 1) := by decide +kernel
theorem dX10_makeOne_153 : decode cX10_makeOne 153 = .ok (.getfield 68, 3) := by decide +kernel
theorem dX10_makeOne_156 : decode cX10_makeOne 156 = .ok (.iconst 0, 1) := by decide +kernel
theorem dX10_makeOne_157 : decode cX10_makeOne 157 = .ok (.sipush 594, 3) := by decide +kernel
theorem dX10_makeOne_160 : decode cX10_makeOne 160 = .ok (.invokestatic 151, 3) := by decide +kernel
theorem dX10_makeOne_163 : decode cX10_makeOne 163 = .ok (.aload_n 0, 1) := by decide +kernel
theorem dX10_makeOne_164 : decode cX10_makeOne 164 = .ok (.iload 4, 2) := by decide +kernel
theorem dX10_makeOne_166 : decode cX10_makeOne 166 = .ok (.invokevirtual 157, 3) := by decide +kernel
theorem dX10_makeOne_169 : decode cX10_makeOne 169 = .ok (.iconst 4, 1) := by decide +kernel
theorem dX10_makeOne_170 : decode cX10_makeOne 170 = .ok (.if_icmp .ne 7, 3) := by decide +kernel
theorem dX10_makeOne_173 : decode cX10_makeOne 173 = .ok (.iconst 2, 1) := by decide +kernel
theorem dX10_makeOne_174 : decode cX10_makeOne 174 = .ok (.goto 4, 3) := by decide +kernel
theorem dX10_makeOne_177 : decode cX10_makeOne 177 = .ok (.iconst 1, 1) := by decide +kernel
theorem dX10_makeOne_178 : decode cX10_makeOne 178 = .ok (.istore 7, 2) := by decide +kernel
theorem dX10_makeOne_180 : decode cX10_makeOne 180 = .ok (.aload_n 0, 1) := by decide +kernel
theorem dX10_makeOne_181 : decode cX10_makeOne 181 = .ok (.aload_n 0, 1) := by decide +kernel
theorem dX10_makeOne_182 : decode cX10_makeOne 182 = .ok (.getfield 39, 3) := by decide +kernel
theorem dX10_makeOne_185 : decode cX10_makeOne 185 = .ok (.iconst 0, 1) := by decide +kernel
theorem dX10_makeOne_186 : decode cX10_makeOne 186 = .ok (.iload 5, 2) := by decide +kernel
theorem dX10_makeOne_188 : decode cX10_makeOne 188 = .ok (.bipush 24, 2) := by decide +kernel
theorem dX10_makeOne_190 : decode cX10_makeOne 190 = .ok (.irem, 1) := by decide +kernel
theorem dX10_makeOne_191 : decode cX10_makeOne 191 = .ok (.iload 5, 2) := by decide +kernel
theorem dX10_makeOne_193 : decode cX10_makeOne 193 = .ok (.bipush 24, 2) := by decide +kernel
theorem dX10_makeOne_195 : decode cX10_makeOne 195 = .ok (.idiv, 1) := by decide +kernel
theorem dX10_makeOne_196 : decode cX10_makeOne 196 = .ok (.invokevirtual 278, 3) := by decide +kernel
theorem dX10_makeOne_199 : decode cX10_makeOne 199 = .ok (.istore 8, 2) := by decide +kernel
theorem dX10_makeOne_201 : decode cX10_makeOne 201 = .ok (.iload 8, 2) := by decide +kernel
theorem dX10_makeOne_203 : decode cX10_makeOne 203 = .ok (.ifCond .ne 18, 3) := by decide +kernel
theorem dX10_makeOne_206 : decode cX10_makeOne 206 = .ok (.aload_n 0, 1) := by decide +kernel
theorem dX10_makeOne_207 : decode cX10_makeOne 207 = .ok (.aload_n 0, 1) := by decide +kernel
theorem dX10_makeOne_208 : decode cX10_makeOne 208 = .ok (.getfield 39, 3) := by decide +kernel
theorem dX10_makeOne_211 : decode cX10_makeOne 211 = .ok (.iload 7, 2) := by decide +kernel
theorem dX10_makeOne_213 : decode cX10_makeOne 213 = .ok (.iload 4, 2) := by decide +kernel
theorem dX10_makeOne_215 : decode cX10_makeOne 215 = .ok (.iconst 5, 1) := by decide +kernel
theorem dX10_makeOne_216 : decode cX10_makeOne 216 = .ok (.invokevirtual 278, 3) := by decide +kernel
theorem dX10_makeOne_219 : decode cX10_makeOne 219 = .ok (.istore 8, 2) := by decide +kernel
theorem dX10_makeOne_221 : decode cX10_makeOne 221 = .ok (.iload 8, 2) := by decide +kernel
theorem dX10_makeOne_223 : decode cX10_makeOne 223 = .ok (.ifCond .ne 15, 3) := by decide +kernel
theorem dX10_makeOne_226 : decode cX10_makeOne 226 = .ok (.aload_n 0, 1) := by decide +kernel
theorem dX10_makeOne_227 : decode cX10_makeOne 227 = .ok (.getfield 39, 3) := by decide +kernel
theorem dX10_makeOne_230 : decode cX10_makeOne 230 = .ok (.iconst 0, 1) := by decide +kernel
theorem dX10_makeOne_231 : decode cX10_makeOne 231 = .ok (.iaload, 1) := by decide +kernel
theorem dX10_makeOne_232 : decode cX10_makeOne 232 = .ok (.iload_n 1, 1) := by decide +kernel
theorem dX10_makeOne_233 : decode cX10_makeOne 233 = .ok (.isub, 1) := by decide +kernel
theorem dX10_makeOne_234 : decode cX10_makeOne 234 = .ok (.iload_n 2, 1) := by decide +kernel
theorem dX10_makeOne_235 : decode cX10_makeOne 235 = .ok (.if_icmp .le 26, 3) := by decide +kernel
theorem dX10_makeOne_238 : decode cX10_makeOne 238 = .ok (.aload_n 0, 1) := by decide +kernel
theorem dX10_makeOne_239 : decode cX10_makeOne 239 = .ok (.getfield 68, 3) := by decide +kernel
theorem dX10_makeOne_242 : decode cX10_makeOne 242 = .ok (.iconst 0, 1) := by decide +kernel
theorem dX10_makeOne_243 : decode cX10_makeOne 243 = .ok (.aload_n 0, 1) := by decide +kernel
theorem dX10_makeOne_244 : decode cX10_makeOne 244 = .ok (.getfield 39, 3) := by decide +kernel
theorem dX10_makeOne_247 : decode cX10_makeOne 247 = .ok (.iconst 0, 1) := by decide +kernel
theorem dX10_makeOne_248 : decode cX10_makeOne 248 = .ok (.sipush 594, 3) := by decide +kernel
theorem dX10_makeOne_251 : decode cX10_makeOne 251 = .ok (.invokestatic 151, 3) := by decide +kernel
theorem dX10_makeOne_254 : decode cX10_makeOne 254 = .ok (.aload_n 3, 1) := by decide +kernel
theorem dX10_makeOne_255 : decode cX10_makeOne 255 = .ok (.iload 4, 2) := by decide +kernel
theorem dX10_makeOne_257 : decode cX10_makeOne 257 = .ok (.iconst 1, 1) := by decide +kernel
theorem dX10_makeOne_258 : decode cX10_makeOne 258 = .ok (.bastore, 1) := by decide +kernel
theorem dX10_makeOne_259 : decode cX10_makeOne 259 = .ok (.iconst 1, 1) := by decide +kernel
theorem dX10_makeOne_260 : decode cX10_makeOne 260 = .ok (.ireturn, 1) := by decide +kernel
theorem dX10_makeOne_261 : decode cX10_makeOne 261 = .ok (.aload_n 0, 1) := by decide +kernel
theorem dX10_makeOne_262 : decode cX10_makeOne 262 = .ok (.aload_n 0, 1) := by decide +kernel
theorem dX10_makeOne_263 : decode cX10_makeOne 263 = .ok (.getfield 249, 3) := by decide +kernel
theorem dX10_makeOne_266 : decode cX10_makeOne 266 = .ok (.iconst 0, 1) := by decide +kernel
theorem dX10_makeOne_267 : decode cX10_makeOne 267 = .ok (.iload 5, 2) := by decide +kernel
theorem dX10_makeOne_269 : decode cX10_makeOne 269 = .ok (.bipush 24, 2) := by decide +kernel
theorem dX10_makeOne_271 : decode cX10_makeOne 271 = .ok (.irem, 1) := by decide +kernel
theorem dX10_makeOne_272 : decode cX10_makeOne 272 = .ok (.iload 5, 2) := by decide +kernel
theorem dX10_makeOne_274 : decode cX10_makeOne 274 = .ok (.bipush 24, 2) := by decide +kernel
theorem dX10_makeOne_276 : decode cX10_makeOne 276 = .ok (.idiv, 1) := by decide +kernel
theorem dX10_makeOne_277 : decode cX10_makeOne 277 = .ok (.invokevirtual 258, 3) := by decide +kernel
theorem dX10_makeOne_280 : decode cX10_makeOne 280 = .ok (.aload_n 0, 1) := by decide +kernel
theorem dX10_makeOne_281 : decode cX10_makeOne 281 = .ok (.aload_n 0, 1) := by decide +kernel
theorem dX10_makeOne_282 : decode cX10_makeOne 282 = .ok (.getfield 249, 3) := by decide +kernel
theorem dX10_makeOne_285 : decode cX10_makeOne 285 = .ok (.iload 7, 2) := by decide +kernel
theorem dX10_makeOne_287 : decode cX10_makeOne 287 = .ok (.iload 4, 2) := by decide +kernel
theorem dX10_makeOne_289 : decode cX10_makeOne 289 = .ok (.iconst 5, 1) := by decide +kernel
theorem dX10_makeOne_290 : decode cX10_makeOne 290 = .ok (.invokevirtual 258, 3) := by decide +kernel
theorem dX10_makeOne_293 : decode cX10_makeOne 293 = .ok (.iconst 1, 1) := by decide +kernel
theorem dX10_makeOne_294 : decode cX10_makeOne 294 = .ok (.ireturn, 1) := by decide +kernel
theorem dX10_make_0 : decode cX10_make 0 = .ok (.aload_n 0, 1) := by decide +kernel
theorem dX10_make_1 : decode cX10_make 1 = .ok (.iconst 0, 1) := by decide +kernel
theorem dX10_make_2 : decode cX10_make 2 = .ok (.putfield 71, 3) := by decide +kernel
theorem dX10_make_5 : decode cX10_make 5 = .ok (.iload_n 1, 1) := by decide +kernel
theorem dX10_make_6 : decode cX10_make 6 = .ok (.iconst 1, 1) := by decide +kernel
theorem dX10_make_7 : decode cX10_make 7 = .ok (.sipush 2880, 3) := by decide +kernel
theorem dX10_make_10 : decode cX10_make 10 = .ok (.invokestatic 74, 3) := by decide +kernel
theorem dX10_make_13 : decode cX10_make 13 = .ok (.ifCond .ne 9, 3) := by decide +kernel
theorem dX10_make_16 : decode cX10_make 16 = .ok (.aload_n 0, 1) := by decide +kernel
theorem dX10_make_17 : decode cX10_make 17 = .ok (.iconst 1, 1) := by decide +kernel
theorem dX10_make_18 : decode cX10_make 18 = .ok (.invokevirtual 89, 3) := by decide +kernel
theorem dX10_make_21 : decode cX10_make 21 = .ok (.ireturn, 1) := by decide +kernel
theorem dX10_make_22 : decode cX10_make 22 = .ok (.aload_n 0, 1) := by decide +kernel
theorem dX10_make_23 : decode cX10_make 23 = .ok (.getfield 249, 3) := by decide +kernel
theorem dX10_make_26 : decode cX10_make 26 = .ok (.istore_n 2, 1) := by decide +kernel
theorem dX10_make_27 : decode cX10_make 27 = .ok (.aload_n 0, 1) := by decide +kernel
theorem dX10_make_28 : decode cX10_make 28 = .ok (.aload_n 0, 1) := by decide +kernel
theorem dX10_make_29 : decode cX10_make 29 = .ok (.getfield 249, 3) := by decide +kernel
theorem dX10_make_32 : decode cX10_make 32 = .ok (.invokevirtual 282, 3) := by decide +kernel
theorem dX10_make_35 : decode cX10_make 35 = .ok (.iconst (-1), 1) := by decide +kernel
theorem dX10_make_36 : decode cX10_make 36 = .ok (.if_icmp .eq 5, 3) := by decide +kernel
theorem dX10_make_39 : decode cX10_make 39 = .ok (.iconst 0, 1) := by decide +kernel
theorem dX10_make_40 : decode cX10_make 40 = .ok (.ireturn, 1) := by decide +kernel
theorem dX10_make_41 : decode cX10_make 41 = .ok (.aload_n 0, 1) := by decide +kernel
theorem dX10_make_42 : decode cX10_make 42 = .ok (.getfield 39, 3) := by decide +kernel
theorem dX10_make_45 : decode cX10_make 45 = .ok (.iconst 0, 1) := by decide +kernel
theorem dX10_make_46 : decode cX10_make 46 = .ok (.iaload, 1) := by decide +kernel
theorem dX10_make_47 : decode cX10_make 47 = .ok (.istore_n 3, 1) := by decide +kernel
theorem dX10_make_48 : decode cX10_make 48 = .ok (.bipush 12, 2) := by decide +kernel
theorem dX10_make_50 : decode cX10_make 50 = .ok (.newarray .boolean, 2) := by decide +kernel
theorem dX10_make_52 : decode cX10_make 52 = .ok (.astore 4, 2) := by decide +kernel
theorem dX10_make_54 : decode cX10_make 54 = .ok (.iconst 1, 1) := by decide +kernel
theorem dX10_make_55 : decode cX10_make 55 = .ok (.istore 5, 2) := by decide +kernel
theorem dX10_make_57 : decode cX10_make 57 = .ok (.iload 5, 2) := by decide +kernel
theorem dX10_make_59 : decode cX10_make 59 = .ok (.ifCond .eq 16, 3) := by decide +kernel
theorem dX10_make_62 : decode cX10_make 62 = .ok (.aload_n 0, 1) := by decide +kernel
theorem dX10_make_63 : decode cX10_make 63 = .ok (.iload_n 3, 1) := by decide +kernel
theorem dX10_make_64 : decode cX10_make 64 = .ok (.iload_n 1, 1) := by decide +kernel
theorem dX10_make_65 : decode cX10_make 65 = .ok (.aload 4, 2) := by decide +kernel
theorem dX10_make_67 : decode cX10_make 67 = .ok (.invokevirtual 292, 3) := by decide +kernel
theorem dX10_make_70 : decode cX10_make 70 = .ok (.istore 5, 2) := by decide +kernel
theorem dX10_make_72 : decode cX10_make 72 = .ok (.goto (-15), 3) := by decide +kernel
theorem dX10_make_75 : decode cX10_make 75 = .ok (.aload_n 0, 1) := by decide +kernel
theorem dX10_make_76 : decode cX10_make 76 = .ok (.getfield 249, 3) := by decide +kernel
theorem dX10_make_79 : decode cX10_make 79 = .ok (.iload_n 2, 1) := by decide +kernel
theorem dX10_make_80 : decode cX10_make 80 = .ok (.isub, 1) := by decide +kernel
theorem dX10_make_81 : decode cX10_make 81 = .ok (.ireturn, 1) := by decide +kernel
theorem dX10_nearest_0 : decode cX10_nearest 0 = .ok (.aload_n 0, 1) := by decide +kernel
theorem dX10_nearest_1 : decode cX10_nearest 1 = .ok (.iconst 0, 1) := by decide +kernel
theorem dX10_nearest_2 : decode cX10_nearest 2 = .ok (.putfield 71, 3) := by decide +kernel
theorem dX10_nearest_5 : decode cX10_nearest 5 = .ok (.aload_n 0, 1) := by decide +kernel
theorem dX10_nearest_6 : decode cX10_nearest 6 = .ok (.iload_n 1, 1) := by decide +kernel
theorem dX10_nearest_7 : decode cX10_nearest 7 = .ok (.invokevirtual 178, 3) := by decide +kernel
theorem dX10_nearest_10 : decode cX10_nearest 10 = .ok (.ifCond .ne 9, 3) := by decide +kernel
theorem dX10_nearest_13 : decode cX10_nearest 13 = .ok (.aload_n 0, 1) := by decide +kernel
theorem dX10_nearest_14 : decode cX10_nearest 14 = .ok (.iconst 1, 1) := by decide +kernel
theorem dX10_nearest_15 : decode cX10_nearest 15 = .ok (.invokevirtual 89, 3) := by decide +kernel
theorem dX10_nearest_18 : decode cX10_nearest 18 = .ok (.ireturn, 1) := by decide +kernel
theorem dX10_nearest_19 : decode cX10_nearest 19 = .ok (.aload_n 0, 1) := by decide +kernel
theorem dX10_nearest_20 : decode cX10_nearest 20 = .ok (.aload_n 0, 1) := by decide +kernel
theorem dX10_nearest_21 : decode cX10_nearest 21 = .ok (.getfield 36, 3) := by decide +kernel
theorem dX10_nearest_24 : decode cX10_nearest 24 = .ok (.iconst 1, 1) := by decide +kernel
theorem dX10_nearest_25 : decode cX10_nearest 25 = .ok (.iaload, 1) := by decide +kernel
theorem dX10_nearest_26 : decode cX10_nearest 26 = .ok (.aload_n 0, 1) := by decide +kernel
theorem dX10_nearest_27 : decode cX10_nearest 27 = .ok (.getfield 36, 3) := by decide +kernel
theorem dX10_nearest_30 : decode cX10_nearest 30 = .ok (.iconst 2, 1) := by decide +kernel
theorem dX10_nearest_31 : decode cX10_nearest 31 = .ok (.iaload, 1) := by decide +kernel
theorem dX10_nearest_32 : decode cX10_nearest 32 = .ok (.iconst 0, 1) := by decide +kernel
theorem dX10_nearest_33 : decode cX10_nearest 33 = .ok (.invokevirtual 126, 3) := by decide +kernel
theorem dX10_nearest_36 : decode cX10_nearest 36 = .ok (.aload_n 0, 1) := by decide +kernel
theorem dX10_nearest_37 : decode cX10_nearest 37 = .ok (.aload_n 0, 1) := by decide +kernel
theorem dX10_nearest_38 : decode cX10_nearest 38 = .ok (.getfield 36, 3) := by decide +kernel
theorem dX10_nearest_41 : decode cX10_nearest 41 = .ok (.iload_n 1, 1) := by decide +kernel
theorem dX10_nearest_42 : decode cX10_nearest 42 = .ok (.invokevirtual 289, 3) := by decide +kernel
theorem dX10_nearest_45 : decode cX10_nearest 45 = .ok (.istore_n 2, 1) := by decide +kernel
theorem dX10_nearest_46 : decode cX10_nearest 46 = .ok (.iload_n 2, 1) := by decide +kernel
theorem dX10_nearest_47 : decode cX10_nearest 47 = .ok (.iconst (-1), 1) := by decide +kernel
theorem dX10_nearest_48 : decode cX10_nearest 48 = .ok (.if_icmp .ne 7, 3) := by decide +kernel
theorem dX10_nearest_51 : decode cX10_nearest 51 = .ok (.iconst (-1), 1) := by decide +kernel
theorem dX10_nearest_52 : decode cX10_nearest 52 = .ok (.goto 15, 3) := by decide +kernel
theorem dX10_nearest_55 : decode cX10_nearest 55 = .ok (.bipush 100, 2) := by decide +kernel
theorem dX10_nearest_57 : decode cX10_nearest 57 = .ok (.iload_n 2, 1) := by decide +kernel
theorem dX10_nearest_58 : decode cX10_nearest 58 = .ok (.bipush 24, 2) := by decide +kernel
theorem dX10_nearest_60 : decode cX10_nearest 60 = .ok (.irem, 1) := by decide +kernel
theorem dX10_nearest_61 : decode cX10_nearest 61 = .ok (.imul, 1) := by decide +kernel
theorem dX10_nearest_62 : decode cX10_nearest 62 = .ok (.iload_n 2, 1) := by decide +kernel
theorem dX10_nearest_63 : decode cX10_nearest 63 = .ok (.bipush 24, 2) := by decide +kernel
theorem dX10_nearest_65 : decode cX10_nearest 65 = .ok (.idiv, 1) := by decide +kernel
theorem dX10_nearest_66 : decode cX10_nearest 66 = .ok (.iadd, 1) := by decide +kernel
theorem dX10_nearest_67 : decode cX10_nearest 67 = .ok (.ireturn, 1) := by decide +kernel
theorem dX10_mark_0 : decode cX10_mark 0 = .ok (.aload_n 0, 1) := by decide +kernel
theorem dX10_mark_1 : decode cX10_mark 1 = .ok (.iconst 0, 1) := by decide +kernel
theorem dX10_mark_2 : decode cX10_mark 2 = .ok (.putfield 71, 3) := by decide +kernel
theorem dX10_mark_5 : decode cX10_mark 5 = .ok (.aload_n 0, 1) := by decide +kernel
theorem dX10_mark_6 : decode cX10_mark 6 = .ok (.getfield 269, 3) := by decide +kernel
theorem dX10_mark_9 : decode cX10_mark 9 = .ok (.bipush 8, 2) := by decide +kernel
theorem dX10_mark_11 : decode cX10_mark 11 = .ok (.if_icmp .ne 9, 3) := by decide +kernel
theorem dX10_mark_14 : decode cX10_mark 14 = .ok (.aload_n 0, 1) := by decide +kernel
theorem dX10_mark_15 : decode cX10_mark 15 = .ok (.iconst 1, 1) := by decide +kernel
theorem dX10_mark_16 : decode cX10_mark 16 = .ok (.invokevirtual 89, 3) := by decide +kernel
theorem dX10_mark_19 : decode cX10_mark 19 = .ok (.ireturn, 1) := by decide +kernel
theorem dX10_mark_20 : decode cX10_mark 20 = .ok (.aload_n 0, 1) := by decide +kernel
theorem dX10_mark_21 : decode cX10_mark 21 = .ok (.getfield 36, 3) := by decide +kernel
theorem dX10_mark_24 : decode cX10_mark 24 = .ok (.iconst 0, 1) := by decide +kernel
theorem dX10_mark_25 : decode cX10_mark 25 = .ok (.aload_n 0, 1) := by decide +kernel
theorem dX10_mark_26 : decode cX10_mark 26 = .ok (.getfield 47, 3) := by decide +kernel
theorem dX10_mark_29 : decode cX10_mark 29 = .ok (.aload_n 0, 1) := by decide +kernel
theorem dX10_mark_30 : decode cX10_mark 30 = .ok (.getfield 269, 3) := by decide +kernel
theorem dX10_mark_33 : decode cX10_mark 33 = .ok (.aaload, 1) := by decide +kernel
theorem dX10_mark_34 : decode cX10_mark 34 = .ok (.iconst 0, 1) := by decide +kernel
theorem dX10_mark_35 : decode cX10_mark 35 = .ok (.sipush 594, 3) := by decide +kernel
theorem dX10_mark_38 : decode cX10_mark 38 = .ok (.invokestatic 151, 3) := by decide +kernel
theorem dX10_mark_41 : decode cX10_mark 41 = .ok (.aload_n 0, 1) := by decide +kernel
theorem dX10_mark_42 : decode cX10_mark 42 = .ok (.getfield 42, 3) := by decide +kernel
theorem dX10_mark_45 : decode cX10_mark 45 = .ok (.iconst 0, 1) := by decide +kernel
theorem dX10_mark_46 : decode cX10_mark 46 = .ok (.aload_n 0, 1) := by decide +kernel
theorem dX10_mark_47 : decode cX10_mark 47 = .ok (.getfield 50, 3) := by decide +kernel
theorem dX10_mark_50 : decode cX10_mark 50 = .ok (.aload_n 0, 1) := by decide +kernel
theorem dX10_mark_51 : decode cX10_mark 51 = .ok (.getfield 269, 3) := by decide +kernel
theorem dX10_mark_54 : decode cX10_mark 54 = .ok (.aaload, 1) := by decide +kernel
theorem dX10_mark_55 : decode cX10_mark 55 = .ok (.iconst 0, 1) := by decide +kernel
theorem dX10_mark_56 : decode cX10_mark 56 = .ok (.aload_n 0, 1) := by decide +kernel
theorem dX10_mark_57 : decode cX10_mark 57 = .ok (.getfield 42, 3) := by decide +kernel
theorem dX10_mark_60 : decode cX10_mark 60 = .ok (.arraylength, 1) := by decide +kernel
theorem dX10_mark_61 : decode cX10_mark 61 = .ok (.invokestatic 151, 3) := by decide +kernel
theorem dX10_mark_64 : decode cX10_mark 64 = .ok (.aload_n 0, 1) := by decide +kernel
theorem dX10_mark_65 : decode cX10_mark 65 = .ok (.getfield 53, 3) := by decide +kernel
theorem dX10_mark_68 : decode cX10_mark 68 = .ok (.aload_n 0, 1) := by decide +kernel
theorem dX10_mark_69 : decode cX10_mark 69 = .ok (.getfield 269, 3) := by decide +kernel
theorem dX10_mark_72 : decode cX10_mark 72 = .ok (.aload_n 0, 1) := by decide +kernel
theorem dX10_mark_73 : decode cX10_mark 73 = .ok (.getfield 249, 3) := by decide +kernel
theorem dX10_mark_76 : decode cX10_mark 76 = .ok (.iastore, 1) := by decide +kernel
theorem dX10_mark_77 : decode cX10_mark 77 = .ok (.aload_n 0, 1) := by decide +kernel
theorem dX10_mark_78 : decode cX10_mark 78 = .ok (.dup, 1) := by decide +kernel
theorem dX10_mark_79 : decode cX10_mark 79 = .ok (.getfield 269, 3) := by decide +kernel
theorem dX10_mark_82 : decode cX10_mark 82 = .ok (.iconst 1, 1) := by decide +kernel
theorem dX10_mark_83 : decode cX10_mark 83 = .ok (.iadd, 1) := by decide +kernel
theorem dX10_mark_84 : decode cX10_mark 84 = .ok (.putfield 269, 3) := by decide +kernel
theorem dX10_mark_87 : decode cX10_mark 87 = .ok (.aload_n 0, 1) := by decide +kernel
theorem dX10_mark_88 : decode cX10_mark 88 = .ok (.getfield 269, 3) := by decide +kernel
theorem dX10_mark_91 : decode cX10_mark 91 = .ok (.iconst 1, 1) := by decide +kernel
theorem dX10_mark_92 : decode cX10_mark 92 = .ok (.isub, 1) := by decide +kernel
theorem dX10_mark_93 : decode cX10_mark 93 = .ok (.ireturn, 1) := by decide +kernel
theorem dX10_back_0 : decode cX10_back 0 = .ok (.aload_n 0, 1) := by decide +kernel
theorem dX10_back_1 : decode cX10_back 1 = .ok (.iconst 0, 1) := by decide +kernel
theorem dX10_back_2 : decode cX10_back 2 = .ok (.putfield 71, 3) := by decide +kernel
theorem dX10_back_5 : decode cX10_back 5 = .ok (.iload_n 1, 1) := by decide +kernel
theorem dX10_back_6 : decode cX10_back 6 = .ok (.iconst 0, 1) := by decide +kernel
theorem dX10_back_7 : decode cX10_back 7 = .ok (.aload_n 0, 1) := by decide +kernel
theorem dX10_back_8 : decode cX10_back 8 = .ok (.getfield 269, 3) := by decide +kernel
theorem dX10_back_11 : decode cX10_back 11 = .ok (.iconst 1, 1) := by decide +kernel
theorem dX10_back_12 : decode cX10_back 12 = .ok (.isub, 1) := by decide +kernel
theorem dX10_back_13 : decode cX10_back 13 = .ok (.invokestatic 74, 3) := by decide +kernel
theorem dX10_back_16 : decode cX10_back 16 = .ok (.ifCond .ne 9, 3) := by decide +kernel
theorem dX10_back_19 : decode cX10_back 19 = .ok (.aload_n 0, 1) := by decide +kernel
theorem dX10_back_20 : decode cX10_back 20 = .ok (.iconst 1, 1) := by decide +kernel
theorem dX10_back_21 : decode cX10_back 21 = .ok (.invokevirtual 89, 3) := by decide +kernel
theorem dX10_back_24 : decode cX10_back 24 = .ok (.ireturn, 1) := by decide +kernel
theorem dX10_back_25 : decode cX10_back 25 = .ok (.aload_n 0, 1) := by decide +kernel
theorem dX10_back_26 : decode cX10_back 26 = .ok (.getfield 47, 3) := by decide +kernel
theorem dX10_back_29 : decode cX10_back 29 = .ok (.iload_n 1, 1) := by decide +kernel
theorem dX10_back_30 : decode cX10_back 30 = .ok (.aaload, 1) := by decide +kernel
theorem dX10_back_31 : decode cX10_back 31 = .ok (.iconst 0, 1) := by decide +kernel
theorem dX10_back_32 : decode cX10_back 32 = .ok (.aload_n 0, 1) := by decide +kernel
theorem dX10_back_33 : decode cX10_back 33 = .ok (.getfield 36, 3) := by decide +kernel
theorem dX10_back_36 : decode cX10_back 36 = .ok (.iconst 0, 1) := by decide +kernel
theorem dX10_back_37 : decode cX10_back 37 = .ok (.sipush 594, 3) := by decide +kernel
theorem dX10_back_40 : decode cX10_back 40 = .ok (.invokestatic 151, 3) := by decide +kernel
theorem dX10_back_43 : decode cX10_back 43 = .ok (.aload_n 0, 1) := by decide +kernel
theorem dX10_back_44 : decode cX10_back 44 = .ok (.getfield 50, 3) := by decide +kernel
theorem dX10_back_47 : decode cX10_back 47 = .ok (.iload_n 1, 1) := by decide +kernel
theorem dX10_back_48 : decode cX10_back 48 = .ok (.aaload, 1) := by decide +kernel
theorem dX10_back_49 : decode cX10_back 49 = .ok (.iconst 0, 1) := by decide +kernel
theorem dX10_back_50 : decode cX10_back 50 = .ok (.aload_n 0, 1) := by decide +kernel
theorem dX10_back_51 : decode cX10_back 51 = .ok (.getfield 42, 3) := by decide +kernel
theorem dX10_back_54 : decode cX10_back 54 = .ok (.iconst 0, 1) := by decide +kernel
theorem dX10_back_55 : decode cX10_back 55 = .ok (.aload_n 0, 1) := by decide +kernel
theorem dX10_back_56 : decode cX10_back 56 = .ok (.getfield 42, 3) := by decide +kernel
theorem dX10_back_59 : decode cX10_back 59 = .ok (.arraylength, 1) := by decide +kernel
theorem dX10_back_60 : decode cX10_back 60 = .ok (.invokestatic 151, 3) := by decide +kernel
theorem dX10_back_63 : decode cX10_back 63 = .ok (.aload_n 0, 1) := by decide +kernel
theorem dX10_back_64 : decode cX10_back 64 = .ok (.aload_n 0, 1) := by decide +kernel
theorem dX10_back_65 : decode cX10_back 65 = .ok (.getfield 53, 3) := by decide +kernel
theorem dX10_back_68 : decode cX10_back 68 = .ok (.iload_n 1, 1) := by decide +kernel
theorem dX10_back_69 : decode cX10_back 69 = .ok (.iaload, 1) := by decide +kernel
theorem dX10_back_70 : decode cX10_back 70 = .ok (.putfield 249, 3) := by decide +kernel
theorem dX10_back_73 : decode cX10_back 73 = .ok (.aload_n 0, 1) := by decide +kernel
theorem dX10_back_74 : decode cX10_back 74 = .ok (.iload_n 1, 1) := by decide +kernel
theorem dX10_back_75 : decode cX10_back 75 = .ok (.iconst 1, 1) := by decide +kernel
theorem dX10_back_76 : decode cX10_back 76 = .ok (.iadd, 1) := by decide +kernel
theorem dX10_back_77 : decode cX10_back 77 = .ok (.putfield 269, 3) := by decide +kernel
theorem dX10_back_80 : decode cX10_back 80 = .ok (.aload_n 0, 1) := by decide +kernel
theorem dX10_back_81 : decode cX10_back 81 = .ok (.getfield 36, 3) := by decide +kernel
theorem dX10_back_84 : decode cX10_back 84 = .ok (.iconst 3, 1) := by decide +kernel
theorem dX10_back_85 : decode cX10_back 85 = .ok (.aload_n 0, 1) := by decide +kernel
theorem dX10_back_86 : decode cX10_back 86 = .ok (.getfield 36, 3) := by decide +kernel
theorem dX10_back_89 : decode cX10_back 89 = .ok (.iconst 3, 1) := by decide +kernel
theorem dX10_back_90 : decode cX10_back 90 = .ok (.iaload, 1) := by decide +kernel
theorem dX10_back_91 : decode cX10_back 91 = .ok (.aload_n 0, 1) := by decide +kernel
theorem dX10_back_92 : decode cX10_back 92 = .ok (.getfield 30, 3) := by decide +kernel
theorem dX10_back_95 : decode cX10_back 95 = .ok (.invokestatic 204, 3) := by decide +kernel
theorem dX10_back_98 : decode cX10_back 98 = .ok (.iastore, 1) := by decide +kernel
theorem dX10_back_99 : decode cX10_back 99 = .ok (.aload_n 0, 1) := by decide +kernel
theorem dX10_back_100 : decode cX10_back 100 = .ok (.getfield 36, 3) := by decide +kernel
theorem dX10_back_103 : decode cX10_back 103 = .ok (.iconst 0, 1) := by decide +kernel
theorem dX10_back_104 : decode cX10_back 104 = .ok (.iaload, 1) := by decide +kernel
theorem dX10_back_105 : decode cX10_back 105 = .ok (.ireturn, 1) := by decide +kernel
theorem dX10_sent_0 : decode cX10_sent 0 = .ok (.aload_n 0, 1) := by decide +kernel
theorem dX10_sent_1 : decode cX10_sent 1 = .ok (.iconst 0, 1) := by decide +kernel
theorem dX10_sent_2 : decode cX10_sent 2 = .ok (.putfield 71, 3) := by decide +kernel
theorem dX10_sent_5 : decode cX10_sent 5 = .ok (.aload_n 0, 1) := by decide +kernel
theorem dX10_sent_6 : decode cX10_sent 6 = .ok (.getfield 36, 3) := by decide +kernel
theorem dX10_sent_9 : decode cX10_sent 9 = .ok (.bipush 8, 2) := by decide +kernel
theorem dX10_sent_11 : decode cX10_sent 11 = .ok (.iaload, 1) := by decide +kernel
theorem dX10_sent_12 : decode cX10_sent 12 = .ok (.ifCond .ne 7, 3) := by decide +kernel
theorem dX10_sent_15 : decode cX10_sent 15 = .ok (.dconst 1, 1) := by decide +kernel
theorem dX10_sent_16 : decode cX10_sent 16 = .ok (.goto 20, 3) := by decide +kernel
theorem dX10_sent_19 : decode cX10_sent 19 = .ok (.aload_n 0, 1) := by decide +kernel
theorem dX10_sent_20 : decode cX10_sent 20 = .ok (.getfield 36, 3) := by decide +kernel
theorem dX10_sent_23 : decode cX10_sent 23 = .ok (.bipush 7, 2) := by decide +kernel
theorem dX10_sent_25 : decode cX10_sent 25 = .ok (.iaload, 1) := by decide +kernel
theorem dX10_sent_26 : decode cX10_sent 26 = .ok (.i2d, 1) := by decide +kernel
theorem dX10_sent_27 : decode cX10_sent 27 = .ok (.aload_n 0, 1) := by decide +kernel
theorem dX10_sent_28 : decode cX10_sent 28 = .ok (.getfield 36, 3) := by decide +kernel
theorem dX10_sent_31 : decode cX10_sent 31 = .ok (.bipush 8, 2) := by decide +kernel
theorem dX10_sent_33 : decode cX10_sent 33 = .ok (.iaload, 1) := by decide +kernel
theorem dX10_sent_34 : decode cX10_sent 34 = .ok (.i2d, 1) := by decide +kernel
theorem dX10_sent_35 : decode cX10_sent 35 = .ok (.ddiv, 1) := by decide +kernel
theorem dX10_sent_36 : decode cX10_sent 36 = .ok (.dreturn, 1) := by decide +kernel
theorem dX10_digest_0 : decode cX10_digest 0 = .ok (.aload_n 0, 1) := by decide +kernel
theorem dX10_digest_1 : decode cX10_digest 1 = .ok (.iconst 0, 1) := by decide +kernel
theorem dX10_digest_2 : decode cX10_digest 2 = .ok (.putfield 71, 3) := by decide +kernel
theorem dX10_digest_5 : decode cX10_digest 5 = .ok (.ldc2_w 296, 3) := by decide +kernel
theorem dX10_digest_8 : decode cX10_digest 8 = .ok (.lstore_n 1, 1) := by decide +kernel
theorem dX10_digest_9 : decode cX10_digest 9 = .ok (.iconst 0, 1) := by decide +kernel
theorem dX10_digest_10 : decode cX10_digest 10 = .ok (.istore_n 3, 1) := by decide +kernel
theorem dX10_digest_11 : decode cX10_digest 11 = .ok (.iload_n 3, 1) := by decide +kernel
theorem dX10_digest_12 : decode cX10_digest 12 = .ok (.bipush 10, 2) := by decide +kernel
theorem dX10_digest_14 : decode cX10_digest 14 = .ok (.if_icmp .ge 25, 3) := by decide +kernel
theorem dX10_digest_17 : decode cX10_digest 17 = .ok (.lload_n 1, 1) := by decide +kernel
theorem dX10_digest_18 : decode cX10_digest 18 = .ok (.ldc2_w 298, 3) := by decide +kernel
theorem dX10_digest_21 : decode cX10_digest 21 = .ok (.lmul, 1) := by decide +kernel
theorem dX10_digest_22 : decode cX10_digest 22 = .ok (.aload_n 0, 1) := by decide +kernel
theorem dX10_digest_23 : decode cX10_digest 23 = .ok (.getfield 36, 3) := by decide +kernel
theorem dX10_digest_26 : decode cX10_digest 26 = .ok (.iload_n 3, 1) := by decide +kernel
theorem dX10_digest_27 : decode cX10_digest 27 = .ok (.invokestatic 207, 3) := by decide +kernel
theorem dX10_digest_30 : decode cX10_digest 30 = .ok (.i2l, 1) := by decide +kernel
theorem dX10_digest_31 : decode cX10_digest 31 = .ok (.ladd, 1) := by decide +kernel
theorem dX10_digest_32 : decode cX10_digest 32 = .ok (.lstore_n 1, 1) := by decide +kernel
theorem dX10_digest_33 : decode cX10_digest 33 = .ok (.iinc 3 1, 3) := by decide +kernel
theorem dX10_digest_36 : decode cX10_digest 36 = .ok (.goto (-25), 3) := by decide +kernel
theorem dX10_digest_39 : decode cX10_digest 39 = .ok (.iconst 0, 1) := by decide +kernel
theorem dX10_digest_40 : decode cX10_digest 40 = .ok (.istore_n 3, 1) := by decide +kernel
theorem dX10_digest_41 : decode cX10_digest 41 = .ok (.iload_n 3, 1) := by decide +kernel
theorem dX10_digest_42 : decode cX10_digest 42 = .ok (.iconst 4, 1) := by decide +kernel
theorem dX10_digest_43 : decode cX10_digest 43 = .ok (.aload_n 0, 1) := by decide +kernel
theorem dX10_digest_44 : decode cX10_digest 44 = .ok (.getfield 36, 3) := by decide +kernel
theorem dX10_digest_47 : decode cX10_digest 47 = .ok (.bipush 9, 2) := by decide +kernel
theorem dX10_digest_49 : decode cX10_digest 49 = .ok (.iaload, 1) := by decide +kernel
theorem dX10_digest_50 : decode cX10_digest 50 = .ok (.imul, 1) := by decide +kernel
theorem dX10_digest_51 : decode cX10_digest 51 = .ok (.if_icmp .ge 26, 3) := by decide +kernel
theorem dX10_digest_54 : decode cX10_digest 54 = .ok (.lload_n 1, 1) := by decide +kernel
theorem dX10_digest_55 : decode cX10_digest 55 = .ok (.ldc2_w 298, 3) := by decide +kernel
theorem dX10_digest_58 : decode cX10_digest 58 = .ok (.lmul, 1) := by decide +kernel
theorem dX10_digest_59 : decode cX10_digest 59 = .ok (.aload_n 0, 1) := by decide +kernel
theorem dX10_digest_60 : decode cX10_digest 60 = .ok (.getfield 36, 3) := by decide +kernel
theorem dX10_digest_63 : decode cX10_digest 63 = .ok (.bipush 34, 2) := by decide +kernel
theorem dX10_digest_65 : decode cX10_digest 65 = .ok (.iload_n 3, 1) := by decide +kernel
theorem dX10_digest_66 : decode cX10_digest 66 = .ok (.iadd, 1) := by decide +kernel
theorem dX10_digest_67 : decode cX10_digest 67 = .ok (.iaload, 1) := by decide +kernel
theorem dX10_digest_68 : decode cX10_digest 68 = .ok (.i2l, 1) := by decide +kernel
theorem dX10_digest_69 : decode cX10_digest 69 = .ok (.ladd, 1) := by decide +kernel
theorem dX10_digest_70 : decode cX10_digest 70 = .ok (.lstore_n 1, 1) := by decide +kernel
theorem dX10_digest_71 : decode cX10_digest 71 = .ok (.iinc 3 1, 3) := by decide +kernel
theorem dX10_digest_74 : decode cX10_digest 74 = .ok (.goto (-33), 3) := by decide +kernel
theorem dX10_digest_77 : decode cX10_digest 77 = .ok (.iconst 0, 1) := by decide +kernel
theorem dX10_digest_78 : decode cX10_digest 78 = .ok (.istore_n 3, 1) := by decide +kernel
theorem dX10_digest_79 : decode cX10_digest 79 = .ok (.iload_n 3, 1) := by decide +kernel
theorem dX10_digest_80 : decode cX10_digest 80 = .ok (.aload_n 0, 1) := by decide +kernel
theorem dX10_digest_81 : decode cX10_digest 81 = .ok (.getfield 78, 3) := by decide +kernel
theorem dX10_digest_84 : decode cX10_digest 84 = .ok (.if_icmp .ge 40, 3) := by decide +kernel
theorem dX10_digest_87 : decode cX10_digest 87 = .ok (.iconst 0, 1) := by decide +kernel
theorem dX10_digest_88 : decode cX10_digest 88 = .ok (.istore 4, 2) := by decide +kernel
theorem dX10_digest_90 : decode cX10_digest 90 = .ok (.iload 4, 2) := by decide +kernel
theorem dX10_digest_92 : decode cX10_digest 92 = .ok (.bipush 6, 2) := by decide +kernel
theorem dX10_digest_94 : decode cX10_digest 94 = .ok (.if_icmp .ge 24, 3) := by decide +kernel
theorem dX10_digest_97 : decode cX10_digest 97 = .ok (.lload_n 1, 1) := by decide +kernel
theorem dX10_digest_98 : decode cX10_digest 98 = .ok (.ldc2_w 298, 3) := by decide +kernel
theorem dX10_digest_101 : decode cX10_digest 101 = .ok (.lmul, 1) := by decide +kernel
theorem dX10_digest_102 : decode cX10_digest 102 = .ok (.aload_n 0, 1) := by decide +kernel
theorem dX10_digest_103 : decode cX10_digest 103 = .ok (.iload_n 3, 1) := by decide +kernel
theorem dX10_digest_104 : decode cX10_digest 104 = .ok (.iload 4, 2) := by decide +kernel
theorem dX10_digest_106 : decode cX10_digest 106 = .ok (.invokevirtual 182, 3) := by decide +kernel
theorem dX10_digest_109 : decode cX10_digest 109 = .ok (.i2l, 1) := by decide +kernel
theorem dX10_digest_110 : decode cX10_digest 110 = .ok (.ladd, 1) := by decide +kernel
theorem dX10_digest_111 : decode cX10_digest 111 = .ok (.lstore_n 1, 1) := by decide +kernel
theorem dX10_digest_112 : decode cX10_digest 112 = .ok (.iinc 4 1, 3) := by decide +kernel
theorem dX10_digest_115 : decode cX10_digest 115 = .ok (.goto (-25), 3) := by decide +kernel
theorem dX10_digest_118 : decode cX10_digest 118 = .ok (.iinc 3 1, 3) := by decide +kernel
theorem dX10_digest_121 : decode cX10_digest 121 = .ok (.goto (-42), 3) := by decide +kernel
theorem dX10_digest_124 : decode cX10_digest 124 = .ok (.iconst 0, 1) := by decide +kernel
theorem dX10_digest_125 : decode cX10_digest 125 = .ok (.istore_n 3, 1) := by decide +kernel
theorem dX10_digest_126 : decode cX10_digest 126 = .ok (.iload_n 3, 1) := by decide +kernel
theorem dX10_digest_127 : decode cX10_digest 127 = .ok (.iconst 3, 1) := by decide +kernel
theorem dX10_digest_128 : decode cX10_digest 128 = .ok (.aload_n 0, 1) := by decide +kernel
theorem dX10_digest_129 : decode cX10_digest 129 = .ok (.getfield 249, 3) := by decide +kernel
theorem dX10_digest_132 : decode cX10_digest 132 = .ok (.imul, 1) := by decide +kernel
theorem dX10_digest_133 : decode cX10_digest 133 = .ok (.if_icmp .ge 23, 3) := by decide +kernel
theorem dX10_digest_136 : decode cX10_digest 136 = .ok (.lload_n 1, 1) := by decide +kernel
theorem dX10_digest_137 : decode cX10_digest 137 = .ok (.ldc2_w 298, 3) := by decide +kernel
theorem dX10_digest_140 : decode cX10_digest 140 = .ok (.lmul, 1) := by decide +kernel
theorem dX10_digest_141 : decode cX10_digest 141 = .ok (.aload_n 0, 1) := by decide +kernel
theorem dX10_digest_142 : decode cX10_digest 142 = .ok (.getfield 42, 3) := by decide +kernel
theorem dX10_digest_145 : decode cX10_digest 145 = .ok (.iload_n 3, 1) := by decide +kernel
theorem dX10_digest_146 : decode cX10_digest 146 = .ok (.iaload, 1) := by decide +kernel
theorem dX10_digest_147 : decode cX10_digest 147 = .ok (.i2l, 1) := by decide +kernel
theorem dX10_digest_148 : decode cX10_digest 148 = .ok (.ladd, 1) := by decide +kernel
theorem dX10_digest_149 : decode cX10_digest 149 = .ok (.lstore_n 1, 1) := by decide +kernel
theorem dX10_digest_150 : decode cX10_digest 150 = .ok (.iinc 3 1, 3) := by decide +kernel
theorem dX10_digest_153 : decode cX10_digest 153 = .ok (.goto (-27), 3) := by decide +kernel
theorem dX10_digest_156 : decode cX10_digest 156 = .ok (.iconst 0, 1) := by decide +kernel
theorem dX10_digest_157 : decode cX10_digest 157 = .ok (.istore_n 3, 1) := by decide +kernel
theorem dX10_digest_158 : decode cX10_digest 158 = .ok (.iload_n 3, 1) := by decide +kernel
theorem dX10_digest_159 : decode cX10_digest 159 = .ok (.iconst 4, 1) := by decide +kernel
theorem dX10_digest_160 : decode cX10_digest 160 = .ok (.if_icmp .ge 22, 3) := by decide +kernel
theorem dX10_digest_163 : decode cX10_digest 163 = .ok (.lload_n 1, 1) := by decide +kernel
theorem dX10_digest_164 : decode cX10_digest 164 = .ok (.ldc2_w 298, 3) := by decide +kernel
theorem dX10_digest_167 : decode cX10_digest 167 = .ok (.lmul, 1) := by decide +kernel
theorem dX10_digest_168 : decode cX10_digest 168 = .ok (.aload_n 0, 1) := by decide +kernel
theorem dX10_digest_169 : decode cX10_digest 169 = .ok (.iload_n 3, 1) := by decide +kernel
theorem dX10_digest_170 : decode cX10_digest 170 = .ok (.invokevirtual 272, 3) := by decide +kernel
theorem dX10_digest_173 : decode cX10_digest 173 = .ok (.i2l, 1) := by decide +kernel
theorem dX10_digest_174 : decode cX10_digest 174 = .ok (.ladd, 1) := by decide +kernel
theorem dX10_digest_175 : decode cX10_digest 175 = .ok (.lstore_n 1, 1) := by decide +kernel
theorem dX10_digest_176 : decode cX10_digest 176 = .ok (.iinc 3 1, 3) := by decide +kernel
theorem dX10_digest_179 : decode cX10_digest 179 = .ok (.goto (-21), 3) := by decide +kernel
theorem dX10_digest_182 : decode cX10_digest 182 = .ok (.lload_n 1, 1) := by decide +kernel
theorem dX10_digest_183 : decode cX10_digest 183 = .ok (.ldc2_w 298, 3) := by decide +kernel
theorem dX10_digest_186 : decode cX10_digest 186 = .ok (.lmul, 1) := by decide +kernel
theorem dX10_digest_187 : decode cX10_digest 187 = .ok (.aload_n 0, 1) := by decide +kernel
theorem dX10_digest_188 : decode cX10_digest 188 = .ok (.invokevirtual 210, 3) := by decide +kernel
theorem dX10_digest_191 : decode cX10_digest 191 = .ok (.i2l, 1) := by decide +kernel
theorem dX10_digest_192 : decode cX10_digest 192 = .ok (.ladd, 1) := by decide +kernel
theorem dX10_digest_193 : decode cX10_digest 193 = .ok (.lreturn, 1) := by decide +kernel
theorem dJ6_compare_7cf53_0 : decode cJ6_compare_7cf53 0 = .ok (.iload_n 0, 1) := by decide +kernel
theorem dJ6_compare_7cf53_1 : decode cJ6_compare_7cf53 1 = .ok (.iload_n 1, 1) := by decide +kernel
theorem dJ6_compare_7cf53_2 : decode cJ6_compare_7cf53 2 = .ok (.if_icmp .ge 7, 3) := by decide +kernel
theorem dJ6_compare_7cf53_5 : decode cJ6_compare_7cf53 5 = .ok (.iconst (-1), 1) := by decide +kernel
theorem dJ6_compare_7cf53_6 : decode cJ6_compare_7cf53 6 = .ok (.goto 13, 3) := by decide +kernel
theorem dJ6_compare_7cf53_9 : decode cJ6_compare_7cf53 9 = .ok (.iload_n 0, 1) := by decide +kernel
theorem dJ6_compare_7cf53_10 : decode cJ6_compare_7cf53 10 = .ok (.iload_n 1, 1) := by decide +kernel
theorem dJ6_compare_7cf53_11 : decode cJ6_compare_7cf53 11 = .ok (.if_icmp .ne 7, 3) := by decide +kernel
theorem dJ6_compare_7cf53_14 : decode cJ6_compare_7cf53 14 = .ok (.iconst 0, 1) := by decide +kernel
theorem dJ6_compare_7cf53_15 : decode cJ6_compare_7cf53 15 = .ok (.goto 4, 3) := by decide +kernel
theorem dJ6_compare_7cf53_18 : decode cJ6_compare_7cf53 18 = .ok (.iconst 1, 1) := by decide +kernel
theorem dJ6_compare_7cf53_19 : decode cJ6_compare_7cf53 19 = .ok (.ireturn, 1) := by decide +kernel
theorem dJ6_bitCount_0f7a4_0 : decode cJ6_bitCount_0f7a4 0 = .ok (.iload_n 0, 1) := by decide +kernel
theorem dJ6_bitCount_0f7a4_1 : decode cJ6_bitCount_0f7a4 1 = .ok (.iload_n 0, 1) := by decide +kernel
theorem dJ6_bitCount_0f7a4_2 : decode cJ6_bitCount_0f7a4 2 = .ok (.iconst 1, 1) := by decide +kernel
theorem dJ6_bitCount_0f7a4_3 : decode cJ6_bitCount_0f7a4 3 = .ok (.iushr, 1) := by decide +kernel
theorem dJ6_bitCount_0f7a4_4 : decode cJ6_bitCount_0f7a4 4 = .ok (.ldc_w 265, 3) := by decide +kernel
theorem dJ6_bitCount_0f7a4_7 : decode cJ6_bitCount_0f7a4 7 = .ok (.iand, 1) := by decide +kernel
theorem dJ6_bitCount_0f7a4_8 : decode cJ6_bitCount_0f7a4 8 = .ok (.isub, 1) := by decide +kernel
theorem dJ6_bitCount_0f7a4_9 : decode cJ6_bitCount_0f7a4 9 = .ok (.istore_n 0, 1) := by decide +kernel
theorem dJ6_bitCount_0f7a4_10 : decode cJ6_bitCount_0f7a4 10 = .ok (.iload_n 0, 1) := by decide +kernel
theorem dJ6_bitCount_0f7a4_11 : decode cJ6_bitCount_0f7a4 11 = .ok (.ldc_w 266, 3) := by decide +kernel
theorem dJ6_bitCount_0f7a4_14 : decode cJ6_bitCount_0f7a4 14 = .ok (.iand, 1) := by decide +kernel
theorem dJ6_bitCount_0f7a4_15 : decode cJ6_bitCount_0f7a4 15 = .ok (.iload_n 0, 1) := by decide +kernel
theorem dJ6_bitCount_0f7a4_16 : decode cJ6_bitCount_0f7a4 16 = .ok (.iconst 2, 1) := by decide +kernel
theorem dJ6_bitCount_0f7a4_17 : decode cJ6_bitCount_0f7a4 17 = .ok (.iushr, 1) := by decide +kernel
theorem dJ6_bitCount_0f7a4_18 : decode cJ6_bitCount_0f7a4 18 = .ok (.ldc_w 266, 3) := by decide +kernel
theorem dJ6_bitCount_0f7a4_21 : decode cJ6_bitCount_0f7a4 21 = .ok (.iand, 1) := by decide +kernel
theorem dJ6_bitCount_0f7a4_22 : decode cJ6_bitCount_0f7a4 22 = .ok (.iadd, 1) := by decide +kernel
theorem dJ6_bitCount_0f7a4_23 : decode cJ6_bitCount_0f7a4 23 = .ok (.istore_n 0, 1) := by decide +kernel
theorem dJ6_bitCount_0f7a4_24 : decode cJ6_bitCount_0f7a4 24 = .ok (.iload_n 0, 1) := by decide +kernel
theorem dJ6_bitCount_0f7a4_25 : decode cJ6_bitCount_0f7a4 25 = .ok (.iload_n 0, 1) := by decide +kernel
theorem dJ6_bitCount_0f7a4_26 : decode cJ6_bitCount_0f7a4 26 = .ok (.iconst 4, 1) := by decide +kernel
theorem dJ6_bitCount_0f7a4_27 : decode cJ6_bitCount_0f7a4 27 = .ok (.iushr, 1) := by decide +kernel
theorem dJ6_bitCount_0f7a4_28 : decode cJ6_bitCount_0f7a4 28 = .ok (.iadd, 1) := by decide +kernel
theorem dJ6_bitCount_0f7a4_29 : decode cJ6_bitCount_0f7a4 29 = .ok (.ldc_w 267, 3) := by decide +kernel
theorem dJ6_bitCount_0f7a4_32 : decode cJ6_bitCount_0f7a4 32 = .ok (.iand, 1) := by decide +kernel
theorem dJ6_bitCount_0f7a4_33 : decode cJ6_bitCount_0f7a4 33 = .ok (.istore_n 0, 1) := by decide +kernel
theorem dJ6_bitCount_0f7a4_34 : decode cJ6_bitCount_0f7a4 34 = .ok (.iload_n 0, 1) := by decide +kernel
theorem dJ6_bitCount_0f7a4_35 : decode cJ6_bitCount_0f7a4 35 = .ok (.iload_n 0, 1) := by decide +kernel
theorem dJ6_bitCount_0f7a4_36 : decode cJ6_bitCount_0f7a4 36 = .ok (.bipush 8, 2) := by decide +kernel
theorem dJ6_bitCount_0f7a4_38 : decode cJ6_bitCount_0f7a4 38 = .ok (.iushr, 1) := by decide +kernel
theorem dJ6_bitCount_0f7a4_39 : decode cJ6_bitCount_0f7a4 39 = .ok (.iadd, 1) := by decide +kernel
theorem dJ6_bitCount_0f7a4_40 : decode cJ6_bitCount_0f7a4 40 = .ok (.istore_n 0, 1) := by decide +kernel
theorem dJ6_bitCount_0f7a4_41 : decode cJ6_bitCount_0f7a4 41 = .ok (.iload_n 0, 1) := by decide +kernel
theorem dJ6_bitCount_0f7a4_42 : decode cJ6_bitCount_0f7a4 42 = .ok (.iload_n 0, 1) := by decide +kernel
theorem dJ6_bitCount_0f7a4_43 : decode cJ6_bitCount_0f7a4 43 = .ok (.bipush 16, 2) := by decide +kernel
theorem dJ6_bitCount_0f7a4_45 : decode cJ6_bitCount_0f7a4 45 = .ok (.iushr, 1) := by decide +kernel
theorem dJ6_bitCount_0f7a4_46 : decode cJ6_bitCount_0f7a4 46 = .ok (.iadd, 1) := by decide +kernel
theorem dJ6_bitCount_0f7a4_47 : decode cJ6_bitCount_0f7a4 47 = .ok (.istore_n 0, 1) := by decide +kernel
theorem dJ6_bitCount_0f7a4_48 : decode cJ6_bitCount_0f7a4 48 = .ok (.iload_n 0, 1) := by decide +kernel
theorem dJ6_bitCount_0f7a4_49 : decode cJ6_bitCount_0f7a4 49 = .ok (.bipush 63, 2) := by decide +kernel
theorem dJ6_bitCount_0f7a4_51 : decode cJ6_bitCount_0f7a4 51 = .ok (.iand, 1) := by decide +kernel
theorem dJ6_bitCount_0f7a4_52 : decode cJ6_bitCount_0f7a4 52 = .ok (.ireturn, 1) := by decide +kernel
theorem dJ6_signum_0f7a4_0 : decode cJ6_signum_0f7a4 0 = .ok (.iload_n 0, 1) := by decide +kernel
theorem dJ6_signum_0f7a4_1 : decode cJ6_signum_0f7a4 1 = .ok (.bipush 31, 2) := by decide +kernel
theorem dJ6_signum_0f7a4_3 : decode cJ6_signum_0f7a4 3 = .ok (.ishr, 1) := by decide +kernel
theorem dJ6_signum_0f7a4_4 : decode cJ6_signum_0f7a4 4 = .ok (.iload_n 0, 1) := by decide +kernel
theorem dJ6_signum_0f7a4_5 : decode cJ6_signum_0f7a4 5 = .ok (.ineg, 1) := by decide +kernel
theorem dJ6_signum_0f7a4_6 : decode cJ6_signum_0f7a4 6 = .ok (.bipush 31, 2) := by decide +kernel
theorem dJ6_signum_0f7a4_8 : decode cJ6_signum_0f7a4 8 = .ok (.iushr, 1) := by decide +kernel
theorem dJ6_signum_0f7a4_9 : decode cJ6_signum_0f7a4 9 = .ok (.ior, 1) := by decide +kernel
theorem dJ6_signum_0f7a4_10 : decode cJ6_signum_0f7a4 10 = .ok (.ireturn, 1) := by decide +kernel
theorem dJ9_floorDiv_7cf53_0 : decode cJ9_floorDiv_7cf53 0 = .ok (.iload_n 0, 1) := by decide +kernel
theorem dJ9_floorDiv_7cf53_1 : decode cJ9_floorDiv_7cf53 1 = .ok (.iload_n 1, 1) := by decide +kernel
theorem dJ9_floorDiv_7cf53_2 : decode cJ9_floorDiv_7cf53 2 = .ok (.idiv, 1) := by decide +kernel
theorem dJ9_floorDiv_7cf53_3 : decode cJ9_floorDiv_7cf53 3 = .ok (.istore_n 2, 1) := by decide +kernel
theorem dJ9_floorDiv_7cf53_4 : decode cJ9_floorDiv_7cf53 4 = .ok (.iload_n 0, 1) := by decide +kernel
theorem dJ9_floorDiv_7cf53_5 : decode cJ9_floorDiv_7cf53 5 = .ok (.iload_n 1, 1) := by decide +kernel
theorem dJ9_floorDiv_7cf53_6 : decode cJ9_floorDiv_7cf53 6 = .ok (.ixor, 1) := by decide +kernel
theorem dJ9_floorDiv_7cf53_7 : decode cJ9_floorDiv_7cf53 7 = .ok (.ifCond .ge 14, 3) := by decide +kernel
theorem dJ9_floorDiv_7cf53_10 : decode cJ9_floorDiv_7cf53 10 = .ok (.iload_n 2, 1) := by decide +kernel
theorem dJ9_floorDiv_7cf53_11 : decode cJ9_floorDiv_7cf53 11 = .ok (.iload_n 1, 1) := by decide +kernel
theorem dJ9_floorDiv_7cf53_12 : decode cJ9_floorDiv_7cf53 12 = .ok (.imul, 1) := by decide +kernel
theorem dJ9_floorDiv_7cf53_13 : decode cJ9_floorDiv_7cf53 13 = .ok (.iload_n 0, 1) := by decide +kernel
theorem dJ9_floorDiv_7cf53_14 : decode cJ9_floorDiv_7cf53 14 = .ok (.if_icmp .eq 7, 3) := by decide +kernel
theorem dJ9_floorDiv_7cf53_17 : decode cJ9_floorDiv_7cf53 17 = .ok (.iload_n 2, 1) := by decide +kernel
theorem dJ9_floorDiv_7cf53_18 : decode cJ9_floorDiv_7cf53 18 = .ok (.iconst 1, 1) := by decide +kernel
theorem dJ9_floorDiv_7cf53_19 : decode cJ9_floorDiv_7cf53 19 = .ok (.isub, 1) := by decide +kernel
theorem dJ9_floorDiv_7cf53_20 : decode cJ9_floorDiv_7cf53 20 = .ok (.ireturn, 1) := by decide +kernel
theorem dJ9_floorDiv_7cf53_21 : decode cJ9_floorDiv_7cf53 21 = .ok (.iload_n 2, 1) := by decide +kernel
theorem dJ9_floorDiv_7cf53_22 : decode cJ9_floorDiv_7cf53 22 = .ok (.ireturn, 1) := by decide +kernel
theorem dJ9_floorMod_7cf53_0 : decode cJ9_floorMod_7cf53 0 = .ok (.iload_n 0, 1) := by decide +kernel
theorem dJ9_floorMod_7cf53_1 : decode cJ9_floorMod_7cf53 1 = .ok (.iload_n 1, 1) := by decide +kernel
theorem dJ9_floorMod_7cf53_2 : decode cJ9_floorMod_7cf53 2 = .ok (.irem, 1) := by decide +kernel
theorem dJ9_floorMod_7cf53_3 : decode cJ9_floorMod_7cf53 3 = .ok (.istore_n 2, 1) := by decide +kernel
theorem dJ9_floorMod_7cf53_4 : decode cJ9_floorMod_7cf53 4 = .ok (.iload_n 0, 1) := by decide +kernel
theorem dJ9_floorMod_7cf53_5 : decode cJ9_floorMod_7cf53 5 = .ok (.iload_n 1, 1) := by decide +kernel
theorem dJ9_floorMod_7cf53_6 : decode cJ9_floorMod_7cf53 6 = .ok (.ixor, 1) := by decide +kernel
theorem dJ9_floorMod_7cf53_7 : decode cJ9_floorMod_7cf53 7 = .ok (.ifCond .ge 11, 3) := by decide +kernel
theorem dJ9_floorMod_7cf53_10 : decode cJ9_floorMod_7cf53 10 = .ok (.iload_n 2, 1) := by decide +kernel
theorem dJ9_floorMod_7cf53_11 : decode cJ9_floorMod_7cf53 11 = .ok (.ifCond .eq 7, 3) := by decide +kernel
theorem dJ9_floorMod_7cf53_14 : decode cJ9_floorMod_7cf53 14 = .ok (.iload_n 2, 1) := by decide +kernel
theorem dJ9_floorMod_7cf53_15 : decode cJ9_floorMod_7cf53 15 = .ok (.iload_n 1, 1) := by decide +kernel
theorem dJ9_floorMod_7cf53_16 : decode cJ9_floorMod_7cf53 16 = .ok (.iadd, 1) := by decide +kernel
theorem dJ9_floorMod_7cf53_17 : decode cJ9_floorMod_7cf53 17 = .ok (.ireturn, 1) := by decide +kernel
theorem dJ9_floorMod_7cf53_18 : decode cJ9_floorMod_7cf53 18 = .ok (.iload_n 2, 1) := by decide +kernel
theorem dJ9_floorMod_7cf53_19 : decode cJ9_floorMod_7cf53 19 = .ok (.ireturn, 1) := by decide +kernel
theorem dJ9_abs_0f7a4_0 : decode cJ9_abs_0f7a4 0 = .ok (.iload_n 0, 1) := by decide +kernel
theorem dJ9_abs_0f7a4_1 : decode cJ9_abs_0f7a4 1 = .ok (.ifCond .ge 8, 3) := by decide +kernel
theorem dJ9_abs_0f7a4_4 : decode cJ9_abs_0f7a4 4 = .ok (.iload_n 0, 1) := by decide +kernel
theorem dJ9_abs_0f7a4_5 : decode cJ9_abs_0f7a4 5 = .ok (.ineg, 1) := by decide +kernel
theorem dJ9_abs_0f7a4_6 : decode cJ9_abs_0f7a4 6 = .ok (.goto 4, 3) := by decide +kernel
theorem dJ9_abs_0f7a4_9 : decode cJ9_abs_0f7a4 9 = .ok (.iload_n 0, 1) := by decide +kernel
theorem dJ9_abs_0f7a4_10 : decode cJ9_abs_0f7a4 10 = .ok (.ireturn, 1) := by decide +kernel
theorem dJ9_max_7cf53_0 : decode cJ9_max_7cf53 0 = .ok (.iload_n 0, 1) := by decide +kernel
theorem dJ9_max_7cf53_1 : decode cJ9_max_7cf53 1 = .ok (.iload_n 1, 1) := by decide +kernel
theorem dJ9_max_7cf53_2 : decode cJ9_max_7cf53 2 = .ok (.if_icmp .lt 7, 3) := by decide +kernel
theorem dJ9_max_7cf53_5 : decode cJ9_max_7cf53 5 = .ok (.iload_n 0, 1) := by decide +kernel
theorem dJ9_max_7cf53_6 : decode cJ9_max_7cf53 6 = .ok (.goto 4, 3) := by decide +kernel
theorem dJ9_max_7cf53_9 : decode cJ9_max_7cf53 9 = .ok (.iload_n 1, 1) := by decide +kernel
theorem dJ9_max_7cf53_10 : decode cJ9_max_7cf53 10 = .ok (.ireturn, 1) := by decide +kernel
theorem dJ9_min_7cf53_0 : decode cJ9_min_7cf53 0 = .ok (.iload_n 0, 1) := by decide +kernel
theorem dJ9_min_7cf53_1 : decode cJ9_min_7cf53 1 = .ok (.iload_n 1, 1) := by decide +kernel
theorem dJ9_min_7cf53_2 : decode cJ9_min_7cf53 2 = .ok (.if_icmp .gt 7, 3) := by decide +kernel
theorem dJ9_min_7cf53_5 : decode cJ9_min_7cf53 5 = .ok (.iload_n 0, 1) := by decide +kernel
theorem dJ9_min_7cf53_6 : decode cJ9_min_7cf53 6 = .ok (.goto 4, 3) := by decide +kernel
theorem dJ9_min_7cf53_9 : decode cJ9_min_7cf53 9 = .ok (.iload_n 1, 1) := by decide +kernel
theorem dJ9_min_7cf53_10 : decode cJ9_min_7cf53 10 = .ok (.ireturn, 1) := by decide +kernel
theorem dL_raise_0 : decode cL_raise 0 = .ok (.aload 6, 2) := by decide +kernel
theorem dL_raise_2 : decode cL_raise 2 = .ok (.iconst 0, 1) := by decide +kernel
theorem dL_raise_3 : decode cL_raise 3 = .ok (.aload_n 0, 1) := by decide +kernel
theorem dL_raise_4 : decode cL_raise 4 = .ok (.iload_n 1, 1) := by decide +kernel
theorem dL_raise_5 : decode cL_raise 5 = .ok (.iload_n 2, 1) := by decide +kernel
theorem dL_raise_6 : decode cL_raise 6 = .ok (.iload_n 3, 1) := by decide +kernel
theorem dL_raise_7 : decode cL_raise 7 = .ok (.iload 4, 2) := by decide +kernel
theorem dL_raise_9 : decode cL_raise 9 = .ok (.iload 5, 2) := by decide +kernel
theorem dL_raise_11 : decode cL_raise 11 = .ok (.invokevirtual 7, 3) := by decide +kernel
theorem dL_raise_14 : decode cL_raise 14 = .ok (.i2l, 1) := by decide +kernel
theorem dL_raise_15 : decode cL_raise 15 = .ok (.lastore, 1) := by decide +kernel
theorem dL_raise_16 : decode cL_raise 16 = .ok (.goto 7, 3) := by decide +kernel
theorem dL_raise_19 : decode cL_raise 19 = .ok (.astore 7, 2) := by decide +kernel
theorem dL_raise_21 : decode cL_raise 21 = .ok (.iconst 1, 1) := by decide +kernel
theorem dL_raise_22 : decode cL_raise 22 = .ok (.ireturn, 1) := by decide +kernel
theorem dL_raise_23 : decode cL_raise 23 = .ok (.iconst 0, 1) := by decide +kernel
theorem dL_raise_24 : decode cL_raise 24 = .ok (.ireturn, 1) := by decide +kernel
theorem dL_pave_0 : decode cL_pave 0 = .ok (.aload 7, 2) := by decide +kernel
theorem dL_pave_2 : decode cL_pave 2 = .ok (.iconst 0, 1) := by decide +kernel
theorem dL_pave_3 : decode cL_pave 3 = .ok (.aload_n 0, 1) := by decide +kernel
theorem dL_pave_4 : decode cL_pave 4 = .ok (.iload_n 1, 1) := by decide +kernel
theorem dL_pave_5 : decode cL_pave 5 = .ok (.iload_n 2, 1) := by decide +kernel
theorem dL_pave_6 : decode cL_pave 6 = .ok (.iload_n 3, 1) := by decide +kernel
theorem dL_pave_7 : decode cL_pave 7 = .ok (.iload 4, 2) := by decide +kernel
theorem dL_pave_9 : decode cL_pave 9 = .ok (.iload 5, 2) := by decide +kernel
theorem dL_pave_11 : decode cL_pave 11 = .ok (.iload 6, 2) := by decide +kernel
theorem dL_pave_13 : decode cL_pave 13 = .ok (.invokevirtual 15, 3) := by decide +kernel
theorem dL_pave_16 : decode cL_pave 16 = .ok (.i2l, 1) := by decide +kernel
theorem dL_pave_17 : decode cL_pave 17 = .ok (.lastore, 1) := by decide +kernel
theorem dL_pave_18 : decode cL_pave 18 = .ok (.goto 7, 3) := by decide +kernel
theorem dL_pave_21 : decode cL_pave 21 = .ok (.astore 8, 2) := by decide +kernel
theorem dL_pave_23 : decode cL_pave 23 = .ok (.iconst 1, 1) := by decide +kernel
theorem dL_pave_24 : decode cL_pave 24 = .ok (.ireturn, 1) := by decide +kernel
theorem dL_pave_25 : decode cL_pave 25 = .ok (.iconst 0, 1) := by decide +kernel
theorem dL_pave_26 : decode cL_pave 26 = .ok (.ireturn, 1) := by decide +kernel
theorem dL_ground_0 : decode cL_ground 0 = .ok (.aload 4, 2) := by decide +kernel
theorem dL_ground_2 : decode cL_ground 2 = .ok (.iconst 0, 1) := by decide +kernel
theorem dL_ground_3 : decode cL_ground 3 = .ok (.aload_n 0, 1) := by decide +kernel
theorem dL_ground_4 : decode cL_ground 4 = .ok (.iload_n 1, 1) := by decide +kernel
theorem dL_ground_5 : decode cL_ground 5 = .ok (.iload_n 2, 1) := by decide +kernel
theorem dL_ground_6 : decode cL_ground 6 = .ok (.iload_n 3, 1) := by decide +kernel
theorem dL_ground_7 : decode cL_ground 7 = .ok (.invokevirtual 19, 3) := by decide +kernel
theorem dL_ground_10 : decode cL_ground 10 = .ok (.i2l, 1) := by decide +kernel
theorem dL_ground_11 : decode cL_ground 11 = .ok (.lastore, 1) := by decide +kernel
theorem dL_ground_12 : decode cL_ground 12 = .ok (.goto 7, 3) := by decide +kernel
theorem dL_ground_15 : decode cL_ground 15 = .ok (.astore 5, 2) := by decide +kernel
theorem dL_ground_17 : decode cL_ground 17 = .ok (.iconst 1, 1) := by decide +kernel
theorem dL_ground_18 : decode cL_ground 18 = .ok (.ireturn, 1) := by decide +kernel
theorem dL_ground_19 : decode cL_ground 19 = .ok (.iconst 0, 1) := by decide +kernel
theorem dL_ground_20 : decode cL_ground 20 = .ok (.ireturn, 1) := by decide +kernel
theorem dL_setSlope_0 : decode cL_setSlope 0 = .ok (.aload_n 2, 1) := by decide +kernel
theorem dL_setSlope_1 : decode cL_setSlope 1 = .ok (.iconst 0, 1) := by decide +kernel
theorem dL_setSlope_2 : decode cL_setSlope 2 = .ok (.aload_n 0, 1) := by decide +kernel
theorem dL_setSlope_3 : decode cL_setSlope 3 = .ok (.iload_n 1, 1) := by decide +kernel
theorem dL_setSlope_4 : decode cL_setSlope 4 = .ok (.invokevirtual 25, 3) := by decide +kernel
theorem dL_setSlope_7 : decode cL_setSlope 7 = .ok (.i2l, 1) := by decide +kernel
theorem dL_setSlope_8 : decode cL_setSlope 8 = .ok (.lastore, 1) := by decide +kernel
theorem dL_setSlope_9 : decode cL_setSlope 9 = .ok (.goto 6, 3) := by decide +kernel
theorem dL_setSlope_12 : decode cL_setSlope 12 = .ok (.astore_n 3, 1) := by decide +kernel
theorem dL_setSlope_13 : decode cL_setSlope 13 = .ok (.iconst 1, 1) := by decide +kernel
theorem dL_setSlope_14 : decode cL_setSlope 14 = .ok (.ireturn, 1) := by decide +kernel
theorem dL_setSlope_15 : decode cL_setSlope 15 = .ok (.iconst 0, 1) := by decide +kernel
theorem dL_setSlope_16 : decode cL_setSlope 16 = .ok (.ireturn, 1) := by decide +kernel
theorem dL_way_0 : decode cL_way 0 = .ok (.aload 6, 2) := by decide +kernel
theorem dL_way_2 : decode cL_way 2 = .ok (.iconst 0, 1) := by decide +kernel
theorem dL_way_3 : decode cL_way 3 = .ok (.aload_n 0, 1) := by decide +kernel
theorem dL_way_4 : decode cL_way 4 = .ok (.iload_n 1, 1) := by decide +kernel
theorem dL_way_5 : decode cL_way 5 = .ok (.iload_n 2, 1) := by decide +kernel
theorem dL_way_6 : decode cL_way 6 = .ok (.iload_n 3, 1) := by decide +kernel
theorem dL_way_7 : decode cL_way 7 = .ok (.iload 4, 2) := by decide +kernel
theorem dL_way_9 : decode cL_way 9 = .ok (.iload 5, 2) := by decide +kernel
theorem dL_way_11 : decode cL_way 11 = .ok (.invokevirtual 29, 3) := by decide +kernel
theorem dL_way_14 : decode cL_way 14 = .ok (.i2l, 1) := by decide +kernel
theorem dL_way_15 : decode cL_way 15 = .ok (.lastore, 1) := by decide +kernel
theorem dL_way_16 : decode cL_way 16 = .ok (.goto 7, 3) := by decide +kernel
theorem dL_way_19 : decode cL_way 19 = .ok (.astore 7, 2) := by decide +kernel
theorem dL_way_21 : decode cL_way 21 = .ok (.iconst 1, 1) := by decide +kernel
theorem dL_way_22 : decode cL_way 22 = .ok (.ireturn, 1) := by decide +kernel
theorem dL_way_23 : decode cL_way 23 = .ok (.iconst 0, 1) := by decide +kernel
theorem dL_way_24 : decode cL_way 24 = .ok (.ireturn, 1) := by decide +kernel
theorem dL_sees_0 : decode cL_sees 0 = .ok (.aload 5, 2) := by decide +kernel
theorem dL_sees_2 : decode cL_sees 2 = .ok (.iconst 0, 1) := by decide +kernel
theorem dL_sees_3 : decode cL_sees 3 = .ok (.aload_n 0, 1) := by decide +kernel
theorem dL_sees_4 : decode cL_sees 4 = .ok (.iload_n 1, 1) := by decide +kernel
theorem dL_sees_5 : decode cL_sees 5 = .ok (.iload_n 2, 1) := by decide +kernel
theorem dL_sees_6 : decode cL_sees 6 = .ok (.iload_n 3, 1) := by decide +kernel
theorem dL_sees_7 : decode cL_sees 7 = .ok (.iload 4, 2) := by decide +kernel
theorem dL_sees_9 : decode cL_sees 9 = .ok (.invokevirtual 32, 3) := by decide +kernel
theorem dL_sees_12 : decode cL_sees 12 = .ok (.ifCond .eq 7, 3) := by decide +kernel
theorem dL_sees_15 : decode cL_sees 15 = .ok (.lconst 1, 1) := by decide +kernel
theorem dL_sees_16 : decode cL_sees 16 = .ok (.goto 4, 3) := by decide +kernel
theorem dL_sees_19 : decode cL_sees 19 = .ok (.lconst 0, 1) := by decide +kernel
theorem dL_sees_20 : decode cL_sees 20 = .ok (.lastore, 1) := by decide +kernel
theorem dL_sees_21 : decode cL_sees 21 = .ok (.goto 7, 3) := by decide +kernel
theorem dL_sees_24 : decode cL_sees 24 = .ok (.astore 6, 2) := by decide +kernel
theorem dL_sees_26 : decode cL_sees 26 = .ok (.iconst 1, 1) := by decide +kernel
theorem dL_sees_27 : decode cL_sees 27 = .ok (.ireturn, 1) := by decide +kernel
theorem dL_sees_28 : decode cL_sees 28 = .ok (.iconst 0, 1) := by decide +kernel
theorem dL_sees_29 : decode cL_sees 29 = .ok (.ireturn, 1) := by decide +kernel
theorem dL_addTarget_0 : decode cL_addTarget 0 = .ok (.aload 5, 2) := by decide +kernel
theorem dL_addTarget_2 : decode cL_addTarget 2 = .ok (.iconst 0, 1) := by decide +kernel
theorem dL_addTarget_3 : decode cL_addTarget 3 = .ok (.aload_n 0, 1) := by decide +kernel
theorem dL_addTarget_4 : decode cL_addTarget 4 = .ok (.iload_n 1, 1) := by decide +kernel
theorem dL_addTarget_5 : decode cL_addTarget 5 = .ok (.iload_n 2, 1) := by decide +kernel
theorem dL_addTarget_6 : decode cL_addTarget 6 = .ok (.iload_n 3, 1) := by decide +kernel
theorem dL_addTarget_7 : decode cL_addTarget 7 = .ok (.iload 4, 2) := by decide +kernel
theorem dL_addTarget_9 : decode cL_addTarget 9 = .ok (.invokevirtual 36, 3) := by decide +kernel
theorem dL_addTarget_12 : decode cL_addTarget 12 = .ok (.i2l, 1) := by decide +kernel
theorem dL_addTarget_13 : decode cL_addTarget 13 = .ok (.lastore, 1) := by decide +kernel
theorem dL_addTarget_14 : decode cL_addTarget 14 = .ok (.goto 15, 3) := by decide +kernel
theorem dL_addTarget_17 : decode cL_addTarget 17 = .ok (.astore 6, 2) := by decide +kernel
theorem dL_addTarget_19 : decode cL_addTarget 19 = .ok (.iconst 1, 1) := by decide +kernel
theorem dL_addTarget_20 : decode cL_addTarget 20 = .ok (.ireturn, 1) := by decide +kernel
theorem dL_addTarget_21 : decode cL_addTarget 21 = .ok (.astore 6, 2) := by decide +kernel
theorem dL_addTarget_23 : decode cL_addTarget 23 = .ok (.iconst 2, 1) := by decide +kernel
theorem dL_addTarget_24 : decode cL_addTarget 24 = .ok (.ireturn, 1) := by decide +kernel
theorem dL_addTarget_25 : decode cL_addTarget 25 = .ok (.astore 6, 2) := by decide +kernel
theorem dL_addTarget_27 : decode cL_addTarget 27 = .ok (.iconst 3, 1) := by decide +kernel
theorem dL_addTarget_28 : decode cL_addTarget 28 = .ok (.ireturn, 1) := by decide +kernel
theorem dL_addTarget_29 : decode cL_addTarget 29 = .ok (.iconst 0, 1) := by decide +kernel
theorem dL_addTarget_30 : decode cL_addTarget 30 = .ok (.ireturn, 1) := by decide +kernel
theorem dL_target_0 : decode cL_target 0 = .ok (.aload_n 3, 1) := by decide +kernel
theorem dL_target_1 : decode cL_target 1 = .ok (.iconst 0, 1) := by decide +kernel
theorem dL_target_2 : decode cL_target 2 = .ok (.aload_n 0, 1) := by decide +kernel
theorem dL_target_3 : decode cL_target 3 = .ok (.iload_n 1, 1) := by decide +kernel
theorem dL_target_4 : decode cL_target 4 = .ok (.iload_n 2, 1) := by decide +kernel
theorem dL_target_5 : decode cL_target 5 = .ok (.invokevirtual 42, 3) := by decide +kernel
theorem dL_target_8 : decode cL_target 8 = .ok (.i2l, 1) := by decide +kernel
theorem dL_target_9 : decode cL_target 9 = .ok (.lastore, 1) := by decide +kernel
theorem dL_target_10 : decode cL_target 10 = .ok (.goto 7, 3) := by decide +kernel
theorem dL_target_13 : decode cL_target 13 = .ok (.astore 4, 2) := by decide +kernel
theorem dL_target_15 : decode cL_target 15 = .ok (.iconst 1, 1) := by decide +kernel
theorem dL_target_16 : decode cL_target 16 = .ok (.ireturn, 1) := by decide +kernel
theorem dL_target_17 : decode cL_target 17 = .ok (.iconst 0, 1) := by decide +kernel
theorem dL_target_18 : decode cL_target 18 = .ok (.ireturn, 1) := by decide +kernel
theorem dL_addPass_0 : decode cL_addPass 0 = .ok (.aload 4, 2) := by decide +kernel
theorem dL_addPass_2 : decode cL_addPass 2 = .ok (.iconst 0, 1) := by decide +kernel
theorem dL_addPass_3 : decode cL_addPass 3 = .ok (.aload_n 0, 1) := by decide +kernel
theorem dL_addPass_4 : decode cL_addPass 4 = .ok (.iload_n 1, 1) := by decide +kernel
theorem dL_addPass_5 : decode cL_addPass 5 = .ok (.iload_n 2, 1) := by decide +kernel
theorem dL_addPass_6 : decode cL_addPass 6 = .ok (.iload_n 3, 1) := by decide +kernel
theorem dL_addPass_7 : decode cL_addPass 7 = .ok (.invokevirtual 46, 3) := by decide +kernel
theorem dL_addPass_10 : decode cL_addPass 10 = .ok (.i2l, 1) := by decide +kernel
theorem dL_addPass_11 : decode cL_addPass 11 = .ok (.lastore, 1) := by decide +kernel
theorem dL_addPass_12 : decode cL_addPass 12 = .ok (.goto 11, 3) := by decide +kernel
theorem dL_addPass_15 : decode cL_addPass 15 = .ok (.astore 5, 2) := by decide +kernel
theorem dL_addPass_17 : decode cL_addPass 17 = .ok (.iconst 1, 1) := by decide +kernel
theorem dL_addPass_18 : decode cL_addPass 18 = .ok (.ireturn, 1) := by decide +kernel
theorem dL_addPass_19 : decode cL_addPass 19 = .ok (.astore 5, 2) := by decide +kernel
theorem dL_addPass_21 : decode cL_addPass 21 = .ok (.iconst 2, 1) := by decide +kernel
theorem dL_addPass_22 : decode cL_addPass 22 = .ok (.ireturn, 1) := by decide +kernel
theorem dL_addPass_23 : decode cL_addPass 23 = .ok (.iconst 0, 1) := by decide +kernel
theorem dL_addPass_24 : decode cL_addPass 24 = .ok (.ireturn, 1) := by decide +kernel
theorem dL_rate_0 : decode cL_rate 0 = .ok (.aload_n 2, 1) := by decide +kernel
theorem dL_rate_1 : decode cL_rate 1 = .ok (.iconst 0, 1) := by decide +kernel
theorem dL_rate_2 : decode cL_rate 2 = .ok (.aload_n 0, 1) := by decide +kernel
theorem dL_rate_3 : decode cL_rate 3 = .ok (.iload_n 1, 1) := by decide +kernel
theorem dL_rate_4 : decode cL_rate 4 = .ok (.invokevirtual 49, 3) := by decide +kernel
theorem dL_rate_7 : decode cL_rate 7 = .ok (.i2l, 1) := by decide +kernel
theorem dL_rate_8 : decode cL_rate 8 = .ok (.lastore, 1) := by decide +kernel
theorem dL_rate_9 : decode cL_rate 9 = .ok (.goto 6, 3) := by decide +kernel
theorem dL_rate_12 : decode cL_rate 12 = .ok (.astore_n 3, 1) := by decide +kernel
theorem dL_rate_13 : decode cL_rate 13 = .ok (.iconst 1, 1) := by decide +kernel
theorem dL_rate_14 : decode cL_rate 14 = .ok (.ireturn, 1) := by decide +kernel
theorem dL_rate_15 : decode cL_rate 15 = .ok (.iconst 0, 1) := by decide +kernel
theorem dL_rate_16 : decode cL_rate 16 = .ok (.ireturn, 1) := by decide +kernel
theorem dL_sky_0 : decode cL_sky 0 = .ok (.aload_n 3, 1) := by decide +kernel
theorem dL_sky_1 : decode cL_sky 1 = .ok (.iconst 0, 1) := by decide +kernel
theorem dL_sky_2 : decode cL_sky 2 = .ok (.aload_n 0, 1) := by decide +kernel
theorem dL_sky_3 : decode cL_sky 3 = .ok (.iload_n 1, 1) := by decide +kernel
theorem dL_sky_4 : decode cL_sky 4 = .ok (.iload_n 2, 1) := by decide +kernel
theorem dL_sky_5 : decode cL_sky 5 = .ok (.invokevirtual 52, 3) := by decide +kernel
theorem dL_sky_8 : decode cL_sky 8 = .ok (.i2l, 1) := by decide +kernel
theorem dL_sky_9 : decode cL_sky 9 = .ok (.lastore, 1) := by decide +kernel
theorem dL_sky_10 : decode cL_sky 10 = .ok (.goto 7, 3) := by decide +kernel
theorem dL_sky_13 : decode cL_sky 13 = .ok (.astore 4, 2) := by decide +kernel
theorem dL_sky_15 : decode cL_sky 15 = .ok (.iconst 1, 1) := by decide +kernel
theorem dL_sky_16 : decode cL_sky 16 = .ok (.ireturn, 1) := by decide +kernel
theorem dL_sky_17 : decode cL_sky 17 = .ok (.iconst 0, 1) := by decide +kernel
theorem dL_sky_18 : decode cL_sky 18 = .ok (.ireturn, 1) := by decide +kernel
theorem dL_setRover_0 : decode cL_setRover 0 = .ok (.aload_n 3, 1) := by decide +kernel
theorem dL_setRover_1 : decode cL_setRover 1 = .ok (.iconst 0, 1) := by decide +kernel
theorem dL_setRover_2 : decode cL_setRover 2 = .ok (.aload_n 0, 1) := by decide +kernel
theorem dL_setRover_3 : decode cL_setRover 3 = .ok (.iload_n 1, 1) := by decide +kernel
theorem dL_setRover_4 : decode cL_setRover 4 = .ok (.iload_n 2, 1) := by decide +kernel
theorem dL_setRover_5 : decode cL_setRover 5 = .ok (.invokevirtual 56, 3) := by decide +kernel
theorem dL_setRover_8 : decode cL_setRover 8 = .ok (.i2l, 1) := by decide +kernel
theorem dL_setRover_9 : decode cL_setRover 9 = .ok (.lastore, 1) := by decide +kernel
theorem dL_setRover_10 : decode cL_setRover 10 = .ok (.goto 11, 3) := by decide +kernel
theorem dL_setRover_13 : decode cL_setRover 13 = .ok (.astore 4, 2) := by decide +kernel
theorem dL_setRover_15 : decode cL_setRover 15 = .ok (.iconst 1, 1) := by decide +kernel
theorem dL_setRover_16 : decode cL_setRover 16 = .ok (.ireturn, 1) := by decide +kernel
theorem dL_setRover_17 : decode cL_setRover 17 = .ok (.astore 4, 2) := by decide +kernel
theorem dL_setRover_19 : decode cL_setRover 19 = .ok (.iconst 2, 1) := by decide +kernel
theorem dL_setRover_20 : decode cL_setRover 20 = .ok (.ireturn, 1) := by decide +kernel
theorem dL_setRover_21 : decode cL_setRover 21 = .ok (.iconst 0, 1) := by decide +kernel
theorem dL_setRover_22 : decode cL_setRover 22 = .ok (.ireturn, 1) := by decide +kernel
theorem dL_rover_0 : decode cL_rover 0 = .ok (.aload_n 2, 1) := by decide +kernel
theorem dL_rover_1 : decode cL_rover 1 = .ok (.iconst 0, 1) := by decide +kernel
theorem dL_rover_2 : decode cL_rover 2 = .ok (.aload_n 0, 1) := by decide +kernel
theorem dL_rover_3 : decode cL_rover 3 = .ok (.iload_n 1, 1) := by decide +kernel
theorem dL_rover_4 : decode cL_rover 4 = .ok (.invokevirtual 59, 3) := by decide +kernel
theorem dL_rover_7 : decode cL_rover 7 = .ok (.i2l, 1) := by decide +kernel
theorem dL_rover_8 : decode cL_rover 8 = .ok (.lastore, 1) := by decide +kernel
theorem dL_rover_9 : decode cL_rover 9 = .ok (.goto 6, 3) := by decide +kernel
theorem dL_rover_12 : decode cL_rover 12 = .ok (.astore_n 3, 1) := by decide +kernel
theorem dL_rover_13 : decode cL_rover 13 = .ok (.iconst 1, 1) := by decide +kernel
theorem dL_rover_14 : decode cL_rover 14 = .ok (.ireturn, 1) := by decide +kernel
theorem dL_rover_15 : decode cL_rover 15 = .ok (.iconst 0, 1) := by decide +kernel
theorem dL_rover_16 : decode cL_rover 16 = .ok (.ireturn, 1) := by decide +kernel
theorem dL_piece_0 : decode cL_piece 0 = .ok (.aload_n 3, 1) := by decide +kernel
theorem dL_piece_1 : decode cL_piece 1 = .ok (.iconst 0, 1) := by decide +kernel
theorem dL_piece_2 : decode cL_piece 2 = .ok (.aload_n 0, 1) := by decide +kernel
theorem dL_piece_3 : decode cL_piece 3 = .ok (.iload_n 1, 1) := by decide +kernel
theorem dL_piece_4 : decode cL_piece 4 = .ok (.iload_n 2, 1) := by decide +kernel
theorem dL_piece_5 : decode cL_piece 5 = .ok (.invokevirtual 62, 3) := by decide +kernel
theorem dL_piece_8 : decode cL_piece 8 = .ok (.i2l, 1) := by decide +kernel
theorem dL_piece_9 : decode cL_piece 9 = .ok (.lastore, 1) := by decide +kernel
theorem dL_piece_10 : decode cL_piece 10 = .ok (.goto 7, 3) := by decide +kernel
theorem dL_piece_13 : decode cL_piece 13 = .ok (.astore 4, 2) := by decide +kernel
theorem dL_piece_15 : decode cL_piece 15 = .ok (.iconst 1, 1) := by decide +kernel
theorem dL_piece_16 : decode cL_piece 16 = .ok (.ireturn, 1) := by decide +kernel
theorem dL_piece_17 : decode cL_piece 17 = .ok (.iconst 0, 1) := by decide +kernel
theorem dL_piece_18 : decode cL_piece 18 = .ok (.ireturn, 1) := by decide +kernel
theorem dL_put_0 : decode cL_put 0 = .ok (.aload 5, 2) := by decide +kernel
theorem dL_put_2 : decode cL_put 2 = .ok (.iconst 0, 1) := by decide +kernel
theorem dL_put_3 : decode cL_put 3 = .ok (.aload_n 0, 1) := by decide +kernel
theorem dL_put_4 : decode cL_put 4 = .ok (.iload_n 1, 1) := by decide +kernel
theorem dL_put_5 : decode cL_put 5 = .ok (.iload_n 2, 1) := by decide +kernel
theorem dL_put_6 : decode cL_put 6 = .ok (.iload_n 3, 1) := by decide +kernel
theorem dL_put_7 : decode cL_put 7 = .ok (.iload 4, 2) := by decide +kernel
theorem dL_put_9 : decode cL_put 9 = .ok (.invokevirtual 65, 3) := by decide +kernel
theorem dL_put_12 : decode cL_put 12 = .ok (.i2l, 1) := by decide +kernel
theorem dL_put_13 : decode cL_put 13 = .ok (.lastore, 1) := by decide +kernel
theorem dL_put_14 : decode cL_put 14 = .ok (.goto 15, 3) := by decide +kernel
theorem dL_put_17 : decode cL_put 17 = .ok (.astore 6, 2) := by decide +kernel
theorem dL_put_19 : decode cL_put 19 = .ok (.iconst 1, 1) := by decide +kernel
theorem dL_put_20 : decode cL_put 20 = .ok (.ireturn, 1) := by decide +kernel
theorem dL_put_21 : decode cL_put 21 = .ok (.astore 6, 2) := by decide +kernel
theorem dL_put_23 : decode cL_put 23 = .ok (.iconst 2, 1) := by decide +kernel
theorem dL_put_24 : decode cL_put 24 = .ok (.ireturn, 1) := by decide +kernel
theorem dL_put_25 : decode cL_put 25 = .ok (.astore 6, 2) := by decide +kernel
theorem dL_put_27 : decode cL_put 27 = .ok (.iconst 3, 1) := by decide +kernel
theorem dL_put_28 : decode cL_put 28 = .ok (.ireturn, 1) := by decide +kernel
theorem dL_put_29 : decode cL_put 29 = .ok (.iconst 0, 1) := by decide +kernel
theorem dL_put_30 : decode cL_put 30 = .ok (.ireturn, 1) := by decide +kernel
theorem dL_remove_0 : decode cL_remove 0 = .ok (.aload_n 2, 1) := by decide +kernel
theorem dL_remove_1 : decode cL_remove 1 = .ok (.iconst 0, 1) := by decide +kernel
theorem dL_remove_2 : decode cL_remove 2 = .ok (.aload_n 0, 1) := by decide +kernel
theorem dL_remove_3 : decode cL_remove 3 = .ok (.iload_n 1, 1) := by decide +kernel
theorem dL_remove_4 : decode cL_remove 4 = .ok (.invokevirtual 68, 3) := by decide +kernel
theorem dL_remove_7 : decode cL_remove 7 = .ok (.i2l, 1) := by decide +kernel
theorem dL_remove_8 : decode cL_remove 8 = .ok (.lastore, 1) := by decide +kernel
theorem dL_remove_9 : decode cL_remove 9 = .ok (.goto 6, 3) := by decide +kernel
theorem dL_remove_12 : decode cL_remove 12 = .ok (.astore_n 3, 1) := by decide +kernel
theorem dL_remove_13 : decode cL_remove 13 = .ok (.iconst 1, 1) := by decide +kernel
theorem dL_remove_14 : decode cL_remove 14 = .ok (.ireturn, 1) := by decide +kernel
theorem dL_remove_15 : decode cL_remove 15 = .ok (.iconst 0, 1) := by decide +kernel
theorem dL_remove_16 : decode cL_remove 16 = .ok (.ireturn, 1) := by decide +kernel
theorem dL_move_0 : decode cL_move 0 = .ok (.aload_n 3, 1) := by decide +kernel
theorem dL_move_1 : decode cL_move 1 = .ok (.iconst 0, 1) := by decide +kernel
theorem dL_move_2 : decode cL_move 2 = .ok (.aload_n 0, 1) := by decide +kernel
theorem dL_move_3 : decode cL_move 3 = .ok (.iload_n 1, 1) := by decide +kernel
theorem dL_move_4 : decode cL_move 4 = .ok (.iload_n 2, 1) := by decide +kernel
theorem dL_move_5 : decode cL_move 5 = .ok (.invokevirtual 71, 3) := by decide +kernel
theorem dL_move_8 : decode cL_move 8 = .ok (.i2l, 1) := by decide +kernel
theorem dL_move_9 : decode cL_move 9 = .ok (.lastore, 1) := by decide +kernel
theorem dL_move_10 : decode cL_move 10 = .ok (.goto 7, 3) := by decide +kernel
theorem dL_move_13 : decode cL_move 13 = .ok (.astore 4, 2) := by decide +kernel
theorem dL_move_15 : decode cL_move 15 = .ok (.iconst 1, 1) := by decide +kernel
theorem dL_move_16 : decode cL_move 16 = .ok (.ireturn, 1) := by decide +kernel
theorem dL_move_17 : decode cL_move 17 = .ok (.iconst 0, 1) := by decide +kernel
theorem dL_move_18 : decode cL_move 18 = .ok (.ireturn, 1) := by decide +kernel
theorem dL_activity_0 : decode cL_activity 0 = .ok (.aload_n 3, 1) := by decide +kernel
theorem dL_activity_1 : decode cL_activity 1 = .ok (.iconst 0, 1) := by decide +kernel
theorem dL_activity_2 : decode cL_activity 2 = .ok (.aload_n 0, 1) := by decide +kernel
theorem dL_activity_3 : decode cL_activity 3 = .ok (.iload_n 1, 1) := by decide +kernel
theorem dL_activity_4 : decode cL_activity 4 = .ok (.iload_n 2, 1) := by decide +kernel
theorem dL_activity_5 : decode cL_activity 5 = .ok (.invokevirtual 74, 3) := by decide +kernel
theorem dL_activity_8 : decode cL_activity 8 = .ok (.i2l, 1) := by decide +kernel
theorem dL_activity_9 : decode cL_activity 9 = .ok (.lastore, 1) := by decide +kernel
theorem dL_activity_10 : decode cL_activity 10 = .ok (.goto 7, 3) := by decide +kernel
theorem dL_activity_13 : decode cL_activity 13 = .ok (.astore 4, 2) := by decide +kernel
theorem dL_activity_15 : decode cL_activity 15 = .ok (.iconst 1, 1) := by decide +kernel
theorem dL_activity_16 : decode cL_activity 16 = .ok (.ireturn, 1) := by decide +kernel
theorem dL_activity_17 : decode cL_activity 17 = .ok (.iconst 0, 1) := by decide +kernel
theorem dL_activity_18 : decode cL_activity 18 = .ok (.ireturn, 1) := by decide +kernel
theorem dL_count_0 : decode cL_count 0 = .ok (.aload_n 2, 1) := by decide +kernel
theorem dL_count_1 : decode cL_count 1 = .ok (.iconst 0, 1) := by decide +kernel
theorem dL_count_2 : decode cL_count 2 = .ok (.aload_n 0, 1) := by decide +kernel
theorem dL_count_3 : decode cL_count 3 = .ok (.iload_n 1, 1) := by decide +kernel
theorem dL_count_4 : decode cL_count 4 = .ok (.invokevirtual 77, 3) := by decide +kernel
theorem dL_count_7 : decode cL_count 7 = .ok (.i2l, 1) := by decide +kernel
theorem dL_count_8 : decode cL_count 8 = .ok (.lastore, 1) := by decide +kernel
theorem dL_count_9 : decode cL_count 9 = .ok (.goto 6, 3) := by decide +kernel
theorem dL_count_12 : decode cL_count 12 = .ok (.astore_n 3, 1) := by decide +kernel
theorem dL_count_13 : decode cL_count 13 = .ok (.iconst 1, 1) := by decide +kernel
theorem dL_count_14 : decode cL_count 14 = .ok (.ireturn, 1) := by decide +kernel
theorem dL_count_15 : decode cL_count 15 = .ok (.iconst 0, 1) := by decide +kernel
theorem dL_count_16 : decode cL_count 16 = .ok (.ireturn, 1) := by decide +kernel
theorem dL_foretell_0 : decode cL_foretell 0 = .ok (.aload_n 3, 1) := by decide +kernel
theorem dL_foretell_1 : decode cL_foretell 1 = .ok (.iconst 0, 1) := by decide +kernel
theorem dL_foretell_2 : decode cL_foretell 2 = .ok (.aload_n 0, 1) := by decide +kernel
theorem dL_foretell_3 : decode cL_foretell 3 = .ok (.iload_n 1, 1) := by decide +kernel
theorem dL_foretell_4 : decode cL_foretell 4 = .ok (.iload_n 2, 1) := by decide +kernel
theorem dL_foretell_5 : decode cL_foretell 5 = .ok (.invokevirtual 80, 3) := by decide +kernel
theorem dL_foretell_8 : decode cL_foretell 8 = .ok (.i2l, 1) := by decide +kernel
theorem dL_foretell_9 : decode cL_foretell 9 = .ok (.lastore, 1) := by decide +kernel
theorem dL_foretell_10 : decode cL_foretell 10 = .ok (.goto 15, 3) := by decide +kernel
theorem dL_foretell_13 : decode cL_foretell 13 = .ok (.astore 4, 2) := by decide +kernel
theorem dL_foretell_15 : decode cL_foretell 15 = .ok (.iconst 1, 1) := by decide +kernel
theorem dL_foretell_16 : decode cL_foretell 16 = .ok (.ireturn, 1) := by decide +kernel
theorem dL_foretell_17 : decode cL_foretell 17 = .ok (.astore 4, 2) := by decide +kernel
theorem dL_foretell_19 : decode cL_foretell 19 = .ok (.iconst 2, 1) := by decide +kernel
theorem dL_foretell_20 : decode cL_foretell 20 = .ok (.ireturn, 1) := by decide +kernel
theorem dL_foretell_21 : decode cL_foretell 21 = .ok (.astore 4, 2) := by decide +kernel
theorem dL_foretell_23 : decode cL_foretell 23 = .ok (.iconst 3, 1) := by decide +kernel
theorem dL_foretell_24 : decode cL_foretell 24 = .ok (.ireturn, 1) := by decide +kernel
theorem dL_foretell_25 : decode cL_foretell 25 = .ok (.iconst 0, 1) := by decide +kernel
theorem dL_foretell_26 : decode cL_foretell 26 = .ok (.ireturn, 1) := by decide +kernel
theorem dL_run_0 : decode cL_run 0 = .ok (.aload_n 2, 1) := by decide +kernel
theorem dL_run_1 : decode cL_run 1 = .ok (.iconst 0, 1) := by decide +kernel
theorem dL_run_2 : decode cL_run 2 = .ok (.aload_n 0, 1) := by decide +kernel
theorem dL_run_3 : decode cL_run 3 = .ok (.iload_n 1, 1) := by decide +kernel
theorem dL_run_4 : decode cL_run 4 = .ok (.invokevirtual 83, 3) := by decide +kernel
theorem dL_run_7 : decode cL_run 7 = .ok (.i2l, 1) := by decide +kernel
theorem dL_run_8 : decode cL_run 8 = .ok (.lastore, 1) := by decide +kernel
theorem dL_run_9 : decode cL_run 9 = .ok (.goto 6, 3) := by decide +kernel
theorem dL_run_12 : decode cL_run 12 = .ok (.astore_n 3, 1) := by decide +kernel
theorem dL_run_13 : decode cL_run 13 = .ok (.iconst 1, 1) := by decide +kernel
theorem dL_run_14 : decode cL_run 14 = .ok (.ireturn, 1) := by decide +kernel
theorem dL_run_15 : decode cL_run 15 = .ok (.iconst 0, 1) := by decide +kernel
theorem dL_run_16 : decode cL_run 16 = .ok (.ireturn, 1) := by decide +kernel
theorem dL_make_0 : decode cL_make 0 = .ok (.aload_n 2, 1) := by decide +kernel
theorem dL_make_1 : decode cL_make 1 = .ok (.iconst 0, 1) := by decide +kernel
theorem dL_make_2 : decode cL_make 2 = .ok (.aload_n 0, 1) := by decide +kernel
theorem dL_make_3 : decode cL_make 3 = .ok (.iload_n 1, 1) := by decide +kernel
theorem dL_make_4 : decode cL_make 4 = .ok (.invokevirtual 86, 3) := by decide +kernel
theorem dL_make_7 : decode cL_make 7 = .ok (.i2l, 1) := by decide +kernel
theorem dL_make_8 : decode cL_make 8 = .ok (.lastore, 1) := by decide +kernel
theorem dL_make_9 : decode cL_make 9 = .ok (.goto 6, 3) := by decide +kernel
theorem dL_make_12 : decode cL_make 12 = .ok (.astore_n 3, 1) := by decide +kernel
theorem dL_make_13 : decode cL_make 13 = .ok (.iconst 1, 1) := by decide +kernel
theorem dL_make_14 : decode cL_make 14 = .ok (.ireturn, 1) := by decide +kernel
theorem dL_make_15 : decode cL_make 15 = .ok (.iconst 0, 1) := by decide +kernel
theorem dL_make_16 : decode cL_make 16 = .ok (.ireturn, 1) := by decide +kernel
theorem dL_nearest_0 : decode cL_nearest 0 = .ok (.aload_n 2, 1) := by decide +kernel
theorem dL_nearest_1 : decode cL_nearest 1 = .ok (.iconst 0, 1) := by decide +kernel
theorem dL_nearest_2 : decode cL_nearest 2 = .ok (.aload_n 0, 1) := by decide +kernel
theorem dL_nearest_3 : decode cL_nearest 3 = .ok (.iload_n 1, 1) := by decide +kernel
theorem dL_nearest_4 : decode cL_nearest 4 = .ok (.invokevirtual 89, 3) := by decide +kernel
theorem dL_nearest_7 : decode cL_nearest 7 = .ok (.i2l, 1) := by decide +kernel
theorem dL_nearest_8 : decode cL_nearest 8 = .ok (.lastore, 1) := by decide +kernel
theorem dL_nearest_9 : decode cL_nearest 9 = .ok (.goto 6, 3) := by decide +kernel
theorem dL_nearest_12 : decode cL_nearest 12 = .ok (.astore_n 3, 1) := by decide +kernel
theorem dL_nearest_13 : decode cL_nearest 13 = .ok (.iconst 1, 1) := by decide +kernel
theorem dL_nearest_14 : decode cL_nearest 14 = .ok (.ireturn, 1) := by decide +kernel
theorem dL_nearest_15 : decode cL_nearest 15 = .ok (.iconst 0, 1) := by decide +kernel
theorem dL_nearest_16 : decode cL_nearest 16 = .ok (.ireturn, 1) := by decide +kernel
theorem dL_mark_0 : decode cL_mark 0 = .ok (.aload_n 1, 1) := by decide +kernel
theorem dL_mark_1 : decode cL_mark 1 = .ok (.iconst 0, 1) := by decide +kernel
theorem dL_mark_2 : decode cL_mark 2 = .ok (.aload_n 0, 1) := by decide +kernel
theorem dL_mark_3 : decode cL_mark 3 = .ok (.invokevirtual 92, 3) := by decide +kernel
theorem dL_mark_6 : decode cL_mark 6 = .ok (.i2l, 1) := by decide +kernel
theorem dL_mark_7 : decode cL_mark 7 = .ok (.lastore, 1) := by decide +kernel
theorem dL_mark_8 : decode cL_mark 8 = .ok (.goto 6, 3) := by decide +kernel
theorem dL_mark_11 : decode cL_mark 11 = .ok (.astore_n 2, 1) := by decide +kernel
theorem dL_mark_12 : decode cL_mark 12 = .ok (.iconst 1, 1) := by decide +kernel
theorem dL_mark_13 : decode cL_mark 13 = .ok (.ireturn, 1) := by decide +kernel
theorem dL_mark_14 : decode cL_mark 14 = .ok (.iconst 0, 1) := by decide +kernel
theorem dL_mark_15 : decode cL_mark 15 = .ok (.ireturn, 1) := by decide +kernel
theorem dL_back_0 : decode cL_back 0 = .ok (.aload_n 2, 1) := by decide +kernel
theorem dL_back_1 : decode cL_back 1 = .ok (.iconst 0, 1) := by decide +kernel
theorem dL_back_2 : decode cL_back 2 = .ok (.aload_n 0, 1) := by decide +kernel
theorem dL_back_3 : decode cL_back 3 = .ok (.iload_n 1, 1) := by decide +kernel
theorem dL_back_4 : decode cL_back 4 = .ok (.invokevirtual 96, 3) := by decide +kernel
theorem dL_back_7 : decode cL_back 7 = .ok (.i2l, 1) := by decide +kernel
theorem dL_back_8 : decode cL_back 8 = .ok (.lastore, 1) := by decide +kernel
theorem dL_back_9 : decode cL_back 9 = .ok (.goto 6, 3) := by decide +kernel
theorem dL_back_12 : decode cL_back 12 = .ok (.astore_n 3, 1) := by decide +kernel
theorem dL_back_13 : decode cL_back 13 = .ok (.iconst 1, 1) := by decide +kernel
theorem dL_back_14 : decode cL_back 14 = .ok (.ireturn, 1) := by decide +kernel
theorem dL_back_15 : decode cL_back 15 = .ok (.iconst 0, 1) := by decide +kernel
theorem dL_back_16 : decode cL_back 16 = .ok (.ireturn, 1) := by decide +kernel
theorem dL_law_0 : decode cL_law 0 = .ok (.new 8, 3) := by decide +kernel
theorem dL_law_3 : decode cL_law 3 = .ok (.dup, 1) := by decide +kernel
theorem dL_law_4 : decode cL_law 4 = .ok (.invokespecial 99, 3) := by decide +kernel
theorem dL_law_7 : decode cL_law 7 = .ok (.astore_n 1, 1) := by decide +kernel
theorem dL_law_8 : decode cL_law 8 = .ok (.new 100, 3) := by decide +kernel
theorem dL_law_11 : decode cL_law 11 = .ok (.dup, 1) := by decide +kernel
theorem dL_law_12 : decode cL_law 12 = .ok (.invokespecial 102, 3) := by decide +kernel
theorem dL_law_15 : decode cL_law 15 = .ok (.astore_n 2, 1) := by decide +kernel
theorem dL_law_16 : decode cL_law 16 = .ok (.iconst 1, 1) := by decide +kernel
theorem dL_law_17 : decode cL_law 17 = .ok (.newarray .long, 2) := by decide +kernel
theorem dL_law_19 : decode cL_law 19 = .ok (.astore_n 3, 1) := by decide +kernel
theorem dL_law_20 : decode cL_law 20 = .ok (.iconst 0, 1) := by decide +kernel

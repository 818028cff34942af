theorem dX5_init_21 : decode cX5_init 21 = .ok (.bipush 40, 2) := by decide +kernel
theorem dX5_init_23 : decode cX5_init 23 = .ok (.newarray .int, 2) := by decide +kernel
theorem dX5_init_25 : decode cX5_init 25 = .ok (.putfield 18, 3) := by decide +kernel
theorem dX5_init_28 : decode cX5_init 28 = .ok (.return_, 1) := by decide +kernel
theorem dX5_has_0 : decode cX5_has 0 = .ok (.iload_n 1, 1) := by decide +kernel
theorem dX5_has_1 : decode cX5_has 1 = .ok (.ifCond .lt 21, 3) := by decide +kernel
theorem dX5_has_4 : decode cX5_has 4 = .ok (.iload_n 1, 1) := by decide +kernel
theorem dX5_has_5 : decode cX5_has 5 = .ok (.aload_n 0, 1) := by decide +kernel
theorem dX5_has_6 : decode cX5_has 6 = .ok (.getfield 21, 3) := by decide +kernel
theorem dX5_has_9 : decode cX5_has 9 = .ok (.if_icmp .ge 13, 3) := by decide +kernel
theorem dX5_has_12 : decode cX5_has 12 = .ok (.iload_n 1, 1) := by decide +kernel
theorem dX5_has_13 : decode cX5_has 13 = .ok (.bipush 40, 2) := by decide +kernel
theorem dX5_has_15 : decode cX5_has 15 = .ok (.if_icmp .ge 7, 3) := by decide +kernel
theorem dX5_has_18 : decode cX5_has 18 = .ok (.iconst 1, 1) := by decide +kernel
theorem dX5_has_19 : decode cX5_has 19 = .ok (.goto 4, 3) := by decide +kernel
theorem dX5_has_22 : decode cX5_has 22 = .ok (.iconst 0, 1) := by decide +kernel
theorem dX5_has_23 : decode cX5_has 23 = .ok (.ireturn, 1) := by decide +kernel
theorem dX5_hasRoom_0 : decode cX5_hasRoom 0 = .ok (.aload_n 0, 1) := by decide +kernel
theorem dX5_hasRoom_1 : decode cX5_hasRoom 1 = .ok (.getfield 21, 3) := by decide +kernel
theorem dX5_hasRoom_4 : decode cX5_hasRoom 4 = .ok (.iload_n 1, 1) := by decide +kernel
theorem dX5_hasRoom_5 : decode cX5_hasRoom 5 = .ok (.iadd, 1) := by decide +kernel
theorem dX5_hasRoom_6 : decode cX5_hasRoom 6 = .ok (.bipush 40, 2) := by decide +kernel
theorem dX5_hasRoom_8 : decode cX5_hasRoom 8 = .ok (.if_icmp .gt 7, 3) := by decide +kernel
theorem dX5_hasRoom_11 : decode cX5_hasRoom 11 = .ok (.iconst 1, 1) := by decide +kernel
theorem dX5_hasRoom_12 : decode cX5_hasRoom 12 = .ok (.goto 4, 3) := by decide +kernel
theorem dX5_hasRoom_15 : decode cX5_hasRoom 15 = .ok (.iconst 0, 1) := by decide +kernel
theorem dX5_hasRoom_16 : decode cX5_hasRoom 16 = .ok (.ireturn, 1) := by decide +kernel
theorem dX5_insert_0 : decode cX5_insert 0 = .ok (.iload_n 1, 1) := by decide +kernel
theorem dX5_insert_1 : decode cX5_insert 1 = .ok (.ifCond .lt 19, 3) := by decide +kernel
theorem dX5_insert_4 : decode cX5_insert 4 = .ok (.iload_n 1, 1) := by decide +kernel
theorem dX5_insert_5 : decode cX5_insert 5 = .ok (.aload_n 0, 1) := by decide +kernel
theorem dX5_insert_6 : decode cX5_insert 6 = .ok (.getfield 21, 3) := by decide +kernel
theorem dX5_insert_9 : decode cX5_insert 9 = .ok (.if_icmp .gt 11, 3) := by decide +kernel
theorem dX5_insert_12 : decode cX5_insert 12 = .ok (.aload_n 0, 1) := by decide +kernel
theorem dX5_insert_13 : decode cX5_insert 13 = .ok (.iconst 1, 1) := by decide +kernel
theorem dX5_insert_14 : decode cX5_insert 14 = .ok (.invokevirtual 25, 3) := by decide +kernel
theorem dX5_insert_17 : decode cX5_insert 17 = .ok (.ifCond .ne 4, 3) := by decide +kernel
theorem dX5_insert_20 : decode cX5_insert 20 = .ok (.return_, 1) := by decide +kernel
theorem dX5_insert_21 : decode cX5_insert 21 = .ok (.aload_n 0, 1) := by decide +kernel
theorem dX5_insert_22 : decode cX5_insert 22 = .ok (.getfield 21, 3) := by decide +kernel
theorem dX5_insert_25 : decode cX5_insert 25 = .ok (.istore 5, 2) := by decide +kernel
theorem dX5_insert_27 : decode cX5_insert 27 = .ok (.iload 5, 2) := by decide +kernel
theorem dX5_insert_29 : decode cX5_insert 29 = .ok (.iload_n 1, 1) := by decide +kernel
theorem dX5_insert_30 : decode cX5_insert 30 = .ok (.if_icmp .le 57, 3) := by decide +kernel
theorem dX5_insert_33 : decode cX5_insert 33 = .ok (.aload_n 0, 1) := by decide +kernel
theorem dX5_insert_34 : decode cX5_insert 34 = .ok (.getfield 9, 3) := by decide +kernel
theorem dX5_insert_37 : decode cX5_insert 37 = .ok (.iload 5, 2) := by decide +kernel
theorem dX5_insert_39 : decode cX5_insert 39 = .ok (.aload_n 0, 1) := by decide +kernel
theorem dX5_insert_40 : decode cX5_insert 40 = .ok (.getfield 9, 3) := by decide +kernel
theorem dX5_insert_43 : decode cX5_insert 43 = .ok (.iload 5, 2) := by decide +kernel
theorem dX5_insert_45 : decode cX5_insert 45 = .ok (.iconst 1, 1) := by decide +kernel
theorem dX5_insert_46 : decode cX5_insert 46 = .ok (.isub, 1) := by decide +kernel
theorem dX5_insert_47 : decode cX5_insert 47 = .ok (.iaload, 1) := by decide +kernel
theorem dX5_insert_48 : decode cX5_insert 48 = .ok (.iastore, 1) := by decide +kernel
theorem dX5_insert_49 : decode cX5_insert 49 = .ok (.aload_n 0, 1) := by decide +kernel
theorem dX5_insert_50 : decode cX5_insert 50 = .ok (.getfield 15, 3) := by decide +kernel
theorem dX5_insert_53 : decode cX5_insert 53 = .ok (.iload 5, 2) := by decide +kernel
theorem dX5_insert_55 : decode cX5_insert 55 = .ok (.aload_n 0, 1) := by decide +kernel
theorem dX5_insert_56 : decode cX5_insert 56 = .ok (.getfield 15, 3) := by decide +kernel
theorem dX5_insert_59 : decode cX5_insert 59 = .ok (.iload 5, 2) := by decide +kernel
theorem dX5_insert_61 : decode cX5_insert 61 = .ok (.iconst 1, 1) := by decide +kernel
theorem dX5_insert_62 : decode cX5_insert 62 = .ok (.isub, 1) := by decide +kernel
theorem dX5_insert_63 : decode cX5_insert 63 = .ok (.iaload, 1) := by decide +kernel
theorem dX5_insert_64 : decode cX5_insert 64 = .ok (.iastore, 1) := by decide +kernel
theorem dX5_insert_65 : decode cX5_insert 65 = .ok (.aload_n 0, 1) := by decide +kernel
theorem dX5_insert_66 : decode cX5_insert 66 = .ok (.getfield 18, 3) := by decide +kernel
theorem dX5_insert_69 : decode cX5_insert 69 = .ok (.iload 5, 2) := by decide +kernel
theorem dX5_insert_71 : decode cX5_insert 71 = .ok (.aload_n 0, 1) := by decide +kernel
theorem dX5_insert_72 : decode cX5_insert 72 = .ok (.getfield 18, 3) := by decide +kernel
theorem dX5_insert_75 : decode cX5_insert 75 = .ok (.iload 5, 2) := by decide +kernel
theorem dX5_insert_77 : decode cX5_insert 77 = .ok (.iconst 1, 1) := by decide +kernel
theorem dX5_insert_78 : decode cX5_insert 78 = .ok (.isub, 1) := by decide +kernel
theorem dX5_insert_79 : decode cX5_insert 79 = .ok (.iaload, 1) := by decide +kernel
theorem dX5_insert_80 : decode cX5_insert 80 = .ok (.iastore, 1) := by decide +kernel
theorem dX5_insert_81 : decode cX5_insert 81 = .ok (.iinc 5 (-1), 3) := by decide +kernel
theorem dX5_insert_84 : decode cX5_insert 84 = .ok (.goto (-57), 3) := by decide +kernel
theorem dX5_insert_87 : decode cX5_insert 87 = .ok (.aload_n 0, 1) := by decide +kernel
theorem dX5_insert_88 : decode cX5_insert 88 = .ok (.getfield 9, 3) := by decide +kernel
theorem dX5_insert_91 : decode cX5_insert 91 = .ok (.iload_n 1, 1) := by decide +kernel
theorem dX5_insert_92 : decode cX5_insert 92 = .ok (.iload_n 2, 1) := by decide +kernel
theorem dX5_insert_93 : decode cX5_insert 93 = .ok (.iastore, 1) := by decide +kernel
theorem dX5_insert_94 : decode cX5_insert 94 = .ok (.aload_n 0, 1) := by decide +kernel
theorem dX5_insert_95 : decode cX5_insert 95 = .ok (.getfield 15, 3) := by decide +kernel
theorem dX5_insert_98 : decode cX5_insert 98 = .ok (.iload_n 1, 1) := by decide +kernel
theorem dX5_insert_99 : decode cX5_insert 99 = .ok (.iload_n 3, 1) := by decide +kernel
theorem dX5_insert_100 : decode cX5_insert 100 = .ok (.iastore, 1) := by decide +kernel
theorem dX5_insert_101 : decode cX5_insert 101 = .ok (.aload_n 0, 1) := by decide +kernel
theorem dX5_insert_102 : decode cX5_insert 102 = .ok (.getfield 18, 3) := by decide +kernel
theorem dX5_insert_105 : decode cX5_insert 105 = .ok (.iload_n 1, 1) := by decide +kernel
theorem dX5_insert_106 : decode cX5_insert 106 = .ok (.iload 4, 2) := by decide +kernel
theorem dX5_insert_108 : decode cX5_insert 108 = .ok (.iastore, 1) := by decide +kernel
theorem dX5_insert_109 : decode cX5_insert 109 = .ok (.aload_n 0, 1) := by decide +kernel
theorem dX5_insert_110 : decode cX5_insert 110 = .ok (.dup, 1) := by decide +kernel
theorem dX5_insert_111 : decode cX5_insert 111 = .ok (.getfield 21, 3) := by decide +kernel
theorem dX5_insert_114 : decode cX5_insert 114 = .ok (.iconst 1, 1) := by decide +kernel
theorem dX5_insert_115 : decode cX5_insert 115 = .ok (.iadd, 1) := by decide +kernel
theorem dX5_insert_116 : decode cX5_insert 116 = .ok (.putfield 21, 3) := by decide +kernel
theorem dX5_insert_119 : decode cX5_insert 119 = .ok (.return_, 1) := by decide +kernel
theorem dX5_takeOut_0 : decode cX5_takeOut 0 = .ok (.aload_n 0, 1) := by decide +kernel
theorem dX5_takeOut_1 : decode cX5_takeOut 1 = .ok (.iload_n 1, 1) := by decide +kernel
theorem dX5_takeOut_2 : decode cX5_takeOut 2 = .ok (.invokevirtual 29, 3) := by decide +kernel
theorem dX5_takeOut_5 : decode cX5_takeOut 5 = .ok (.ifCond .ne 4, 3) := by decide +kernel
theorem dX5_takeOut_8 : decode cX5_takeOut 8 = .ok (.return_, 1) := by decide +kernel
theorem dX5_takeOut_9 : decode cX5_takeOut 9 = .ok (.iload_n 1, 1) := by decide +kernel
theorem dX5_takeOut_10 : decode cX5_takeOut 10 = .ok (.istore_n 2, 1) := by decide +kernel
theorem dX5_takeOut_11 : decode cX5_takeOut 11 = .ok (.iload_n 2, 1) := by decide +kernel
theorem dX5_takeOut_12 : decode cX5_takeOut 12 = .ok (.iconst 1, 1) := by decide +kernel
theorem dX5_takeOut_13 : decode cX5_takeOut 13 = .ok (.iadd, 1) := by decide +kernel
theorem dX5_takeOut_14 : decode cX5_takeOut 14 = .ok (.aload_n 0, 1) := by decide +kernel
theorem dX5_takeOut_15 : decode cX5_takeOut 15 = .ok (.getfield 21, 3) := by decide +kernel
theorem dX5_takeOut_18 : decode cX5_takeOut 18 = .ok (.if_icmp .ge 59, 3) := by decide +kernel
theorem dX5_takeOut_21 : decode cX5_takeOut 21 = .ok (.iload_n 2, 1) := by decide +kernel
theorem dX5_takeOut_22 : decode cX5_takeOut 22 = .ok (.iconst 1, 1) := by decide +kernel
theorem dX5_takeOut_23 : decode cX5_takeOut 23 = .ok (.iadd, 1) := by decide +kernel
theorem dX5_takeOut_24 : decode cX5_takeOut 24 = .ok (.bipush 40, 2) := by decide +kernel
theorem dX5_takeOut_26 : decode cX5_takeOut 26 = .ok (.if_icmp .ge 51, 3) := by decide +kernel
theorem dX5_takeOut_29 : decode cX5_takeOut 29 = .ok (.aload_n 0, 1) := by decide +kernel
theorem dX5_takeOut_30 : decode cX5_takeOut 30 = .ok (.getfield 9, 3) := by decide +kernel
theorem dX5_takeOut_33 : decode cX5_takeOut 33 = .ok (.iload_n 2, 1) := by decide +kernel
theorem dX5_takeOut_34 : decode cX5_takeOut 34 = .ok (.aload_n 0, 1) := by decide +kernel
theorem dX5_takeOut_35 : decode cX5_takeOut 35 = .ok (.getfield 9, 3) := by decide +kernel
theorem dX5_takeOut_38 : decode cX5_takeOut 38 = .ok (.iload_n 2, 1) := by decide +kernel
theorem dX5_takeOut_39 : decode cX5_takeOut 39 = .ok (.iconst 1, 1) := by decide +kernel
theorem dX5_takeOut_40 : decode cX5_takeOut 40 = .ok (.iadd, 1) := by decide +kernel
theorem dX5_takeOut_41 : decode cX5_takeOut 41 = .ok (.iaload, 1) := by decide +kernel
theorem dX5_takeOut_42 : decode cX5_takeOut 42 = .ok (.iastore, 1) := by decide +kernel
theorem dX5_takeOut_43 : decode cX5_takeOut 43 = .ok (.aload_n 0, 1) := by decide +kernel
theorem dX5_takeOut_44 : decode cX5_takeOut 44 = .ok (.getfield 15, 3) := by decide +kernel
theorem dX5_takeOut_47 : decode cX5_takeOut 47 = .ok (.iload_n 2, 1) := by decide +kernel
theorem dX5_takeOut_48 : decode cX5_takeOut 48 = .ok (.aload_n 0, 1) := by decide +kernel
theorem dX5_takeOut_49 : decode cX5_takeOut 49 = .ok (.getfield 15, 3) := by decide +kernel
theorem dX5_takeOut_52 : decode cX5_takeOut 52 = .ok (.iload_n 2, 1) := by decide +kernel
theorem dX5_takeOut_53 : decode cX5_takeOut 53 = .ok (.iconst 1, 1) := by decide +kernel
theorem dX5_takeOut_54 : decode cX5_takeOut 54 = .ok (.iadd, 1) := by decide +kernel
theorem dX5_takeOut_55 : decode cX5_takeOut 55 = .ok (.iaload, 1) := by decide +kernel
theorem dX5_takeOut_56 : decode cX5_takeOut 56 = .ok (.iastore, 1) := by decide +kernel
theorem dX5_takeOut_57 : decode cX5_takeOut 57 = .ok (.aload_n 0, 1) := by decide +kernel
theorem dX5_takeOut_58 : decode cX5_takeOut 58 = .ok (.getfield 18, 3) := by decide +kernel
theorem dX5_takeOut_61 : decode cX5_takeOut 61 = .ok (.iload_n 2, 1) := by decide +kernel
theorem dX5_takeOut_62 : decode cX5_takeOut 62 = .ok (.aload_n 0, 1) := by decide +kernel
theorem dX5_takeOut_63 : decode cX5_takeOut 63 = .ok (.getfield 18, 3) := by decide +kernel
theorem dX5_takeOut_66 : decode cX5_takeOut 66 = .ok (.iload_n 2, 1) := by decide +kernel
theorem dX5_takeOut_67 : decode cX5_takeOut 67 = .ok (.iconst 1, 1) := by decide +kernel
theorem dX5_takeOut_68 : decode cX5_takeOut 68 = .ok (.iadd, 1) := by decide +kernel
theorem dX5_takeOut_69 : decode cX5_takeOut 69 = .ok (.iaload, 1) := by decide +kernel
theorem dX5_takeOut_70 : decode cX5_takeOut 70 = .ok (.iastore, 1) := by decide +kernel
theorem dX5_takeOut_71 : decode cX5_takeOut 71 = .ok (.iinc 2 1, 3) := by decide +kernel
theorem dX5_takeOut_74 : decode cX5_takeOut 74 = .ok (.goto (-63), 3) := by decide +kernel
theorem dX5_takeOut_77 : decode cX5_takeOut 77 = .ok (.aload_n 0, 1) := by decide +kernel
theorem dX5_takeOut_78 : decode cX5_takeOut 78 = .ok (.dup, 1) := by decide +kernel
theorem dX5_takeOut_79 : decode cX5_takeOut 79 = .ok (.getfield 21, 3) := by decide +kernel
theorem dX5_takeOut_82 : decode cX5_takeOut 82 = .ok (.iconst 1, 1) := by decide +kernel
theorem dX5_takeOut_83 : decode cX5_takeOut 83 = .ok (.isub, 1) := by decide +kernel
theorem dX5_takeOut_84 : decode cX5_takeOut 84 = .ok (.putfield 21, 3) := by decide +kernel
theorem dX5_takeOut_87 : decode cX5_takeOut 87 = .ok (.return_, 1) := by decide +kernel
theorem dX5_tell_0 : decode cX5_tell 0 = .ok (.aload_n 0, 1) := by decide +kernel
theorem dX5_tell_1 : decode cX5_tell 1 = .ok (.iload_n 1, 1) := by decide +kernel
theorem dX5_tell_2 : decode cX5_tell 2 = .ok (.invokevirtual 29, 3) := by decide +kernel
theorem dX5_tell_5 : decode cX5_tell 5 = .ok (.ifCond .ne 5, 3) := by decide +kernel
theorem dX5_tell_8 : decode cX5_tell 8 = .ok (.iconst (-1), 1) := by decide +kernel
theorem dX5_tell_9 : decode cX5_tell 9 = .ok (.ireturn, 1) := by decide +kernel
theorem dX5_tell_10 : decode cX5_tell 10 = .ok (.iload_n 2, 1) := by decide +kernel
theorem dX5_tell_11 : decode cX5_tell 11 = .ok (.lookupswitch 39 #[(0, 25), (1, 32)], 25) := by decide +kernel
theorem dX5_tell_36 : decode cX5_tell 36 = .ok (.aload_n 0, 1) := by decide +kernel
theorem dX5_tell_37 : decode cX5_tell 37 = .ok (.getfield 9, 3) := by decide +kernel
theorem dX5_tell_40 : decode cX5_tell 40 = .ok (.iload_n 1, 1) := by decide +kernel
theorem dX5_tell_41 : decode cX5_tell 41 = .ok (.iaload, 1) := by decide +kernel
theorem dX5_tell_42 : decode cX5_tell 42 = .ok (.ireturn, 1) := by decide +kernel
theorem dX5_tell_43 : decode cX5_tell 43 = .ok (.aload_n 0, 1) := by decide +kernel
theorem dX5_tell_44 : decode cX5_tell 44 = .ok (.getfield 15, 3) := by decide +kernel
theorem dX5_tell_47 : decode cX5_tell 47 = .ok (.iload_n 1, 1) := by decide +kernel
theorem dX5_tell_48 : decode cX5_tell 48 = .ok (.iaload, 1) := by decide +kernel
theorem dX5_tell_49 : decode cX5_tell 49 = .ok (.ireturn, 1) := by decide +kernel
theorem dX5_tell_50 : decode cX5_tell 50 = .ok (.aload_n 0, 1) := by decide +kernel
theorem dX5_tell_51 : decode cX5_tell 51 = .ok (.getfield 18, 3) := by decide +kernel
theorem dX5_tell_54 : decode cX5_tell 54 = .ok (.iload_n 1, 1) := by decide +kernel
theorem dX5_tell_55 : decode cX5_tell 55 = .ok (.iaload, 1) := by decide +kernel
theorem dX5_tell_56 : decode cX5_tell 56 = .ok (.ireturn, 1) := by decide +kernel
theorem dX6_init_0 : decode cX6_init 0 = .ok (.aload_n 0, 1) := by decide +kernel
theorem dX6_init_1 : decode cX6_init 1 = .ok (.invokespecial 3, 3) := by decide +kernel
theorem dX6_init_4 : decode cX6_init 4 = .ok (.aload_n 0, 1) := by decide +kernel
theorem dX6_init_5 : decode cX6_init 5 = .ok (.sipush 3000, 3) := by decide +kernel
theorem dX6_init_8 : decode cX6_init 8 = .ok (.putfield 9, 3) := by decide +kernel
theorem dX6_init_11 : decode cX6_init 11 = .ok (.aload_n 0, 1) := by decide +kernel
theorem dX6_init_12 : decode cX6_init 12 = .ok (.bipush (-20), 2) := by decide +kernel
theorem dX6_init_14 : decode cX6_init 14 = .ok (.putfield 15, 3) := by decide +kernel
theorem dX6_init_17 : decode cX6_init 17 = .ok (.aload_n 0, 1) := by decide +kernel
theorem dX6_init_18 : decode cX6_init 18 = .ok (.bipush 100, 2) := by decide +kernel
theorem dX6_init_20 : decode cX6_init 20 = .ok (.putfield 18, 3) := by decide +kernel
theorem dX6_init_23 : decode cX6_init 23 = .ok (.aload_n 0, 1) := by decide +kernel
theorem dX6_init_24 : decode cX6_init 24 = .ok (.sipush 133, 3) := by decide +kernel
theorem dX6_init_27 : decode cX6_init 27 = .ok (.newarray .int, 2) := by decide +kernel
theorem dX6_init_29 : decode cX6_init 29 = .ok (.putfield 21, 3) := by decide +kernel
theorem dX6_init_32 : decode cX6_init 32 = .ok (.aload_n 0, 1) := by decide +kernel
theorem dX6_init_33 : decode cX6_init 33 = .ok (.sipush 133, 3) := by decide +kernel
theorem dX6_init_36 : decode cX6_init 36 = .ok (.newarray .int, 2) := by decide +kernel
theorem dX6_init_38 : decode cX6_init 38 = .ok (.putfield 25, 3) := by decide +kernel
theorem dX6_init_41 : decode cX6_init 41 = .ok (.aload_n 0, 1) := by decide +kernel
theorem dX6_init_42 : decode cX6_init 42 = .ok (.sipush 133, 3) := by decide +kernel
theorem dX6_init_45 : decode cX6_init 45 = .ok (.newarray .int, 2) := by decide +kernel
theorem dX6_init_47 : decode cX6_init 47 = .ok (.putfield 28, 3) := by decide +kernel
theorem dX6_init_50 : decode cX6_init 50 = .ok (.aload_n 0, 1) := by decide +kernel
theorem dX6_init_51 : decode cX6_init 51 = .ok (.sipush 133, 3) := by decide +kernel
theorem dX6_init_54 : decode cX6_init 54 = .ok (.newarray .int, 2) := by decide +kernel
theorem dX6_init_56 : decode cX6_init 56 = .ok (.putfield 31, 3) := by decide +kernel
theorem dX6_init_59 : decode cX6_init 59 = .ok (.aload_n 0, 1) := by decide +kernel
theorem dX6_init_60 : decode cX6_init 60 = .ok (.bipush 12, 2) := by decide +kernel
theorem dX6_init_62 : decode cX6_init 62 = .ok (.newarray .int, 2) := by decide +kernel
theorem dX6_init_64 : decode cX6_init 64 = .ok (.putfield 34, 3) := by decide +kernel
theorem dX6_init_67 : decode cX6_init 67 = .ok (.return_, 1) := by decide +kernel
theorem dX6_copyFrom_0 : decode cX6_copyFrom 0 = .ok (.aload_n 1, 1) := by decide +kernel
theorem dX6_copyFrom_1 : decode cX6_copyFrom 1 = .ok (.ifnonnull 4, 3) := by decide +kernel
theorem dX6_copyFrom_4 : decode cX6_copyFrom 4 = .ok (.return_, 1) := by decide +kernel
theorem dX6_copyFrom_5 : decode cX6_copyFrom 5 = .ok (.aload_n 0, 1) := by decide +kernel
theorem dX6_copyFrom_6 : decode cX6_copyFrom 6 = .ok (.aload_n 1, 1) := by decide +kernel
theorem dX6_copyFrom_7 : decode cX6_copyFrom 7 = .ok (.getfield 37, 3) := by decide +kernel
theorem dX6_copyFrom_10 : decode cX6_copyFrom 10 = .ok (.putfield 37, 3) := by decide +kernel
theorem dX6_copyFrom_13 : decode cX6_copyFrom 13 = .ok (.aload_n 0, 1) := by decide +kernel
theorem dX6_copyFrom_14 : decode cX6_copyFrom 14 = .ok (.aload_n 1, 1) := by decide +kernel
theorem dX6_copyFrom_15 : decode cX6_copyFrom 15 = .ok (.getfield 40, 3) := by decide +kernel
theorem dX6_copyFrom_18 : decode cX6_copyFrom 18 = .ok (.putfield 40, 3) := by decide +kernel
theorem dX6_copyFrom_21 : decode cX6_copyFrom 21 = .ok (.aload_n 0, 1) := by decide +kernel
theorem dX6_copyFrom_22 : decode cX6_copyFrom 22 = .ok (.aload_n 1, 1) := by decide +kernel
theorem dX6_copyFrom_23 : decode cX6_copyFrom 23 = .ok (.getfield 43, 3) := by decide +kernel
theorem dX6_copyFrom_26 : decode cX6_copyFrom 26 = .ok (.putfield 43, 3) := by decide +kernel
theorem dX6_copyFrom_29 : decode cX6_copyFrom 29 = .ok (.aload_n 0, 1) := by decide +kernel
theorem dX6_copyFrom_30 : decode cX6_copyFrom 30 = .ok (.aload_n 1, 1) := by decide +kernel
theorem dX6_copyFrom_31 : decode cX6_copyFrom 31 = .ok (.getfield 9, 3) := by decide +kernel
theorem dX6_copyFrom_34 : decode cX6_copyFrom 34 = .ok (.putfield 9, 3) := by decide +kernel
theorem dX6_copyFrom_37 : decode cX6_copyFrom 37 = .ok (.aload_n 0, 1) := by decide +kernel
theorem dX6_copyFrom_38 : decode cX6_copyFrom 38 = .ok (.aload_n 1, 1) := by decide +kernel
theorem dX6_copyFrom_39 : decode cX6_copyFrom 39 = .ok (.getfield 15, 3) := by decide +kernel
theorem dX6_copyFrom_42 : decode cX6_copyFrom 42 = .ok (.putfield 15, 3) := by decide +kernel
theorem dX6_copyFrom_45 : decode cX6_copyFrom 45 = .ok (.aload_n 0, 1) := by decide +kernel
theorem dX6_copyFrom_46 : decode cX6_copyFrom 46 = .ok (.aload_n 1, 1) := by decide +kernel
theorem dX6_copyFrom_47 : decode cX6_copyFrom 47 = .ok (.getfield 18, 3) := by decide +kernel
theorem dX6_copyFrom_50 : decode cX6_copyFrom 50 = .ok (.putfield 18, 3) := by decide +kernel
theorem dX6_copyFrom_53 : decode cX6_copyFrom 53 = .ok (.aload_n 0, 1) := by decide +kernel
theorem dX6_copyFrom_54 : decode cX6_copyFrom 54 = .ok (.aload_n 1, 1) := by decide +kernel
theorem dX6_copyFrom_55 : decode cX6_copyFrom 55 = .ok (.getfield 46, 3) := by decide +kernel
theorem dX6_copyFrom_58 : decode cX6_copyFrom 58 = .ok (.putfield 46, 3) := by decide +kernel
theorem dX6_copyFrom_61 : decode cX6_copyFrom 61 = .ok (.aload_n 0, 1) := by decide +kernel
theorem dX6_copyFrom_62 : decode cX6_copyFrom 62 = .ok (.aload_n 1, 1) := by decide +kernel
theorem dX6_copyFrom_63 : decode cX6_copyFrom 63 = .ok (.getfield 50, 3) := by decide +kernel
theorem dX6_copyFrom_66 : decode cX6_copyFrom 66 = .ok (.putfield 50, 3) := by decide +kernel
theorem dX6_copyFrom_69 : decode cX6_copyFrom 69 = .ok (.aload_n 0, 1) := by decide +kernel
theorem dX6_copyFrom_70 : decode cX6_copyFrom 70 = .ok (.aload_n 1, 1) := by decide +kernel
theorem dX6_copyFrom_71 : decode cX6_copyFrom 71 = .ok (.getfield 53, 3) := by decide +kernel
theorem dX6_copyFrom_74 : decode cX6_copyFrom 74 = .ok (.putfield 53, 3) := by decide +kernel
theorem dX6_copyFrom_77 : decode cX6_copyFrom 77 = .ok (.aload_n 0, 1) := by decide +kernel
theorem dX6_copyFrom_78 : decode cX6_copyFrom 78 = .ok (.aload_n 1, 1) := by decide +kernel
theorem dX6_copyFrom_79 : decode cX6_copyFrom 79 = .ok (.getfield 56, 3) := by decide +kernel
theorem dX6_copyFrom_82 : decode cX6_copyFrom 82 = .ok (.putfield 56, 3) := by decide +kernel
theorem dX6_copyFrom_85 : decode cX6_copyFrom 85 = .ok (.iconst 0, 1) := by decide +kernel
theorem dX6_copyFrom_86 : decode cX6_copyFrom 86 = .ok (.istore_n 2, 1) := by decide +kernel
theorem dX6_copyFrom_87 : decode cX6_copyFrom 87 = .ok (.iload_n 2, 1) := by decide +kernel
theorem dX6_copyFrom_88 : decode cX6_copyFrom 88 = .ok (.aload_n 0, 1) := by decide +kernel
theorem dX6_copyFrom_89 : decode cX6_copyFrom 89 = .ok (.getfield 56, 3) := by decide +kernel
theorem dX6_copyFrom_92 : decode cX6_copyFrom 92 = .ok (.if_icmp .ge 64, 3) := by decide +kernel
theorem dX6_copyFrom_95 : decode cX6_copyFrom 95 = .ok (.iload_n 2, 1) := by decide +kernel
theorem dX6_copyFrom_96 : decode cX6_copyFrom 96 = .ok (.sipush 133, 3) := by decide +kernel
theorem dX6_copyFrom_99 : decode cX6_copyFrom 99 = .ok (.if_icmp .ge 57, 3) := by decide +kernel
theorem dX6_copyFrom_102 : decode cX6_copyFrom 102 = .ok (.aload_n 0, 1) := by decide +kernel
theorem dX6_copyFrom_103 : decode cX6_copyFrom 103 = .ok (.getfield 21, 3) := by decide +kernel
theorem dX6_copyFrom_106 : decode cX6_copyFrom 106 = .ok (.iload_n 2, 1) := by decide +kernel
theorem dX6_copyFrom_107 : decode cX6_copyFrom 107 = .ok (.aload_n 1, 1) := by decide +kernel
theorem dX6_copyFrom_108 : decode cX6_copyFrom 108 = .ok (.getfield 21, 3) := by decide +kernel
theorem dX6_copyFrom_111 : decode cX6_copyFrom 111 = .ok (.iload_n 2, 1) := by decide +kernel
theorem dX6_copyFrom_112 : decode cX6_copyFrom 112 = .ok (.iaload, 1) := by decide +kernel
theorem dX6_copyFrom_113 : decode cX6_copyFrom 113 = .ok (.iastore, 1) := by decide +kernel
theorem dX6_copyFrom_114 : decode cX6_copyFrom 114 = .ok (.aload_n 0, 1) := by decide +kernel
theorem dX6_copyFrom_115 : decode cX6_copyFrom 115 = .ok (.getfield 25, 3) := by decide +kernel
theorem dX6_copyFrom_118 : decode cX6_copyFrom 118 = .ok (.iload_n 2, 1) := by decide +kernel
theorem dX6_copyFrom_119 : decode cX6_copyFrom 119 = .ok (.aload_n 1, 1) := by decide +kernel
theorem dX6_copyFrom_120 : decode cX6_copyFrom 120 = .ok (.getfield 25, 3) := by decide +kernel
theorem dX6_copyFrom_123 : decode cX6_copyFrom 123 = .ok (.iload_n 2, 1) := by decide +kernel
theorem dX6_copyFrom_124 : decode cX6_copyFrom 124 = .ok (.iaload, 1) := by decide +kernel
theorem dX6_copyFrom_125 : decode cX6_copyFrom 125 = .ok (.iastore, 1) := by decide +kernel
theorem dX6_copyFrom_126 : decode cX6_copyFrom 126 = .ok (.aload_n 0, 1) := by decide +kernel
theorem dX6_copyFrom_127 : decode cX6_copyFrom 127 = .ok (.getfield 28, 3) := by decide +kernel
theorem dX6_copyFrom_130 : decode cX6_copyFrom 130 = .ok (.iload_n 2, 1) := by decide +kernel
theorem dX6_copyFrom_131 : decode cX6_copyFrom 131 = .ok (.aload_n 1, 1) := by decide +kernel
theorem dX6_copyFrom_132 : decode cX6_copyFrom 132 = .ok (.getfield 28, 3) := by decide +kernel
theorem dX6_copyFrom_135 : decode cX6_copyFrom 135 = .ok (.iload_n 2, 1) := by decide +kernel
theorem dX6_copyFrom_136 : decode cX6_copyFrom 136 = .ok (.iaload, 1) := by decide +kernel
theorem dX6_copyFrom_137 : decode cX6_copyFrom 137 = .ok (.iastore, 1) := by decide +kernel
theorem dX6_copyFrom_138 : decode cX6_copyFrom 138 = .ok (.aload_n 0, 1) := by decide +kernel
theorem dX6_copyFrom_139 : decode cX6_copyFrom 139 = .ok (.getfield 31, 3) := by decide +kernel
theorem dX6_copyFrom_142 : decode cX6_copyFrom 142 = .ok (.iload_n 2, 1) := by decide +kernel
theorem dX6_copyFrom_143 : decode cX6_copyFrom 143 = .ok (.aload_n 1, 1) := by decide +kernel
theorem dX6_copyFrom_144 : decode cX6_copyFrom 144 = .ok (.getfield 31, 3) := by decide +kernel
theorem dX6_copyFrom_147 : decode cX6_copyFrom 147 = .ok (.iload_n 2, 1) := by decide +kernel
theorem dX6_copyFrom_148 : decode cX6_copyFrom 148 = .ok (.iaload, 1) := by decide +kernel
theorem dX6_copyFrom_149 : decode cX6_copyFrom 149 = .ok (.iastore, 1) := by decide +kernel
theorem dX6_copyFrom_150 : decode cX6_copyFrom 150 = .ok (.iinc 2 1, 3) := by decide +kernel
theorem dX6_copyFrom_153 : decode cX6_copyFrom 153 = .ok (.goto (-66), 3) := by decide +kernel
theorem dX6_copyFrom_156 : decode cX6_copyFrom 156 = .ok (.iconst 0, 1) := by decide +kernel
theorem dX6_copyFrom_157 : decode cX6_copyFrom 157 = .ok (.istore_n 2, 1) := by decide +kernel
theorem dX6_copyFrom_158 : decode cX6_copyFrom 158 = .ok (.iload_n 2, 1) := by decide +kernel
theorem dX6_copyFrom_159 : decode cX6_copyFrom 159 = .ok (.bipush 12, 2) := by decide +kernel
theorem dX6_copyFrom_161 : decode cX6_copyFrom 161 = .ok (.if_icmp .ge 21, 3) := by decide +kernel
theorem dX6_copyFrom_164 : decode cX6_copyFrom 164 = .ok (.aload_n 0, 1) := by decide +kernel
theorem dX6_copyFrom_165 : decode cX6_copyFrom 165 = .ok (.getfield 34, 3) := by decide +kernel
theorem dX6_copyFrom_168 : decode cX6_copyFrom 168 = .ok (.iload_n 2, 1) := by decide +kernel
theorem dX6_copyFrom_169 : decode cX6_copyFrom 169 = .ok (.aload_n 1, 1) := by decide +kernel
theorem dX6_copyFrom_170 : decode cX6_copyFrom 170 = .ok (.getfield 34, 3) := by decide +kernel
theorem dX6_copyFrom_173 : decode cX6_copyFrom 173 = .ok (.iload_n 2, 1) := by decide +kernel
theorem dX6_copyFrom_174 : decode cX6_copyFrom 174 = .ok (.iaload, 1) := by decide +kernel
theorem dX6_copyFrom_175 : decode cX6_copyFrom 175 = .ok (.iastore, 1) := by decide +kernel
theorem dX6_copyFrom_176 : decode cX6_copyFrom 176 = .ok (.iinc 2 1, 3) := by decide +kernel
theorem dX6_copyFrom_179 : decode cX6_copyFrom 179 = .ok (.goto (-21), 3) := by decide +kernel
theorem dX6_copyFrom_182 : decode cX6_copyFrom 182 = .ok (.return_, 1) := by decide +kernel
theorem dX6_limitBattery_0 : decode cX6_limitBattery 0 = .ok (.aload_n 0, 1) := by decide +kernel
theorem dX6_limitBattery_1 : decode cX6_limitBattery 1 = .ok (.aload_n 0, 1) := by decide +kernel
theorem dX6_limitBattery_2 : decode cX6_limitBattery 2 = .ok (.getfield 9, 3) := by decide +kernel
theorem dX6_limitBattery_5 : decode cX6_limitBattery 5 = .ok (.iload_n 1, 1) := by decide +kernel
theorem dX6_limitBattery_6 : decode cX6_limitBattery 6 = .ok (.invokestatic 59, 3) := by decide +kernel
theorem dX6_limitBattery_9 : decode cX6_limitBattery 9 = .ok (.putfield 9, 3) := by decide +kernel
theorem dX6_limitBattery_12 : decode cX6_limitBattery 12 = .ok (.return_, 1) := by decide +kernel
theorem dX6_hasPiece_0 : decode cX6_hasPiece 0 = .ok (.iload_n 1, 1) := by decide +kernel
theorem dX6_hasPiece_1 : decode cX6_hasPiece 1 = .ok (.ifCond .lt 22, 3) := by decide +kernel
theorem dX6_hasPiece_4 : decode cX6_hasPiece 4 = .ok (.iload_n 1, 1) := by decide +kernel
theorem dX6_hasPiece_5 : decode cX6_hasPiece 5 = .ok (.aload_n 0, 1) := by decide +kernel
theorem dX6_hasPiece_6 : decode cX6_hasPiece 6 = .ok (.getfield 56, 3) := by decide +kernel
theorem dX6_hasPiece_9 : decode cX6_hasPiece 9 = .ok (.if_icmp .ge 14, 3) := by decide +kernel
theorem dX6_hasPiece_12 : decode cX6_hasPiece 12 = .ok (.iload_n 1, 1) := by decide +kernel
theorem dX6_hasPiece_13 : decode cX6_hasPiece 13 = .ok (.sipush 133, 3) := by decide +kernel
theorem dX6_hasPiece_16 : decode cX6_hasPiece 16 = .ok (.if_icmp .ge 7, 3) := by decide +kernel
theorem dX6_hasPiece_19 : decode cX6_hasPiece 19 = .ok (.iconst 1, 1) := by decide +kernel
theorem dX6_hasPiece_20 : decode cX6_hasPiece 20 = .ok (.goto 4, 3) := by decide +kernel
theorem dX6_hasPiece_23 : decode cX6_hasPiece 23 = .ok (.iconst 0, 1) := by decide +kernel
theorem dX6_hasPiece_24 : decode cX6_hasPiece 24 = .ok (.ireturn, 1) := by decide +kernel
theorem dX6_unitsKept_0 : decode cX6_unitsKept 0 = .ok (.iconst 0, 1) := by decide +kernel
theorem dX6_unitsKept_1 : decode cX6_unitsKept 1 = .ok (.istore_n 1, 1) := by decide +kernel
theorem dX6_unitsKept_2 : decode cX6_unitsKept 2 = .ok (.iconst 0, 1) := by decide +kernel
theorem dX6_unitsKept_3 : decode cX6_unitsKept 3 = .ok (.istore_n 2, 1) := by decide +kernel
theorem dX6_unitsKept_4 : decode cX6_unitsKept 4 = .ok (.iload_n 2, 1) := by decide +kernel
theorem dX6_unitsKept_5 : decode cX6_unitsKept 5 = .ok (.aload_n 0, 1) := by decide +kernel
theorem dX6_unitsKept_6 : decode cX6_unitsKept 6 = .ok (.getfield 56, 3) := by decide +kernel
theorem dX6_unitsKept_9 : decode cX6_unitsKept 9 = .ok (.if_icmp .ge 25, 3) := by decide +kernel
theorem dX6_unitsKept_12 : decode cX6_unitsKept 12 = .ok (.iload_n 2, 1) := by decide +kernel
theorem dX6_unitsKept_13 : decode cX6_unitsKept 13 = .ok (.sipush 133, 3) := by decide +kernel
theorem dX6_unitsKept_16 : decode cX6_unitsKept 16 = .ok (.if_icmp .ge 18, 3) := by decide +kernel
theorem dX6_unitsKept_19 : decode cX6_unitsKept 19 = .ok (.iload_n 1, 1) := by decide +kernel
theorem dX6_unitsKept_20 : decode cX6_unitsKept 20 = .ok (.aload_n 0, 1) := by decide +kernel
theorem dX6_unitsKept_21 : decode cX6_unitsKept 21 = .ok (.getfield 25, 3) := by decide +kernel
theorem dX6_unitsKept_24 : decode cX6_unitsKept 24 = .ok (.iload_n 2, 1) := by decide +kernel
theorem dX6_unitsKept_25 : decode cX6_unitsKept 25 = .ok (.iaload, 1) := by decide +kernel
theorem dX6_unitsKept_26 : decode cX6_unitsKept 26 = .ok (.iadd, 1) := by decide +kernel
theorem dX6_unitsKept_27 : decode cX6_unitsKept 27 = .ok (.istore_n 1, 1) := by decide +kernel
theorem dX6_unitsKept_28 : decode cX6_unitsKept 28 = .ok (.iinc 2 1, 3) := by decide +kernel
theorem dX6_unitsKept_31 : decode cX6_unitsKept 31 = .ok (.goto (-27), 3) := by decide +kernel
theorem dX6_unitsKept_34 : decode cX6_unitsKept 34 = .ok (.iload_n 1, 1) := by decide +kernel
theorem dX6_unitsKept_35 : decode cX6_unitsKept 35 = .ok (.ireturn, 1) := by decide +kernel
theorem dX6_tell_0 : decode cX6_tell 0 = .ok (.iload_n 1, 1) := by decide +kernel
theorem dX6_tell_1 : decode cX6_tell 1 = .ok (.tableswitch 104 0 8 #[51, 56, 61, 66, 71, 76, 89, 94, 99], 51) := by decide +kernel
theorem dX6_tell_52 : decode cX6_tell 52 = .ok (.aload_n 0, 1) := by decide +kernel
theorem dX6_tell_53 : decode cX6_tell 53 = .ok (.getfield 37, 3) := by decide +kernel
theorem dX6_tell_56 : decode cX6_tell 56 = .ok (.ireturn, 1) := by decide +kernel
theorem dX6_tell_57 : decode cX6_tell 57 = .ok (.aload_n 0, 1) := by decide +kernel
theorem dX6_tell_58 : decode cX6_tell 58 = .ok (.getfield 40, 3) := by decide +kernel
theorem dX6_tell_61 : decode cX6_tell 61 = .ok (.ireturn, 1) := by decide +kernel
theorem dX6_tell_62 : decode cX6_tell 62 = .ok (.aload_n 0, 1) := by decide +kernel
theorem dX6_tell_63 : decode cX6_tell 63 = .ok (.getfield 43, 3) := by decide +kernel
theorem dX6_tell_66 : decode cX6_tell 66 = .ok (.ireturn, 1) := by decide +kernel
theorem dX6_tell_67 : decode cX6_tell 67 = .ok (.aload_n 0, 1) := by decide +kernel
theorem dX6_tell_68 : decode cX6_tell 68 = .ok (.getfield 9, 3) := by decide +kernel
theorem dX6_tell_71 : decode cX6_tell 71 = .ok (.ireturn, 1) := by decide +kernel
theorem dX6_tell_72 : decode cX6_tell 72 = .ok (.aload_n 0, 1) := by decide +kernel
theorem dX6_tell_73 : decode cX6_tell 73 = .ok (.getfield 15, 3) := by decide +kernel
theorem dX6_tell_76 : decode cX6_tell 76 = .ok (.ireturn, 1) := by decide +kernel
theorem dX6_tell_77 : decode cX6_tell 77 = .ok (.aload_n 0, 1) := by decide +kernel
theorem dX6_tell_78 : decode cX6_tell 78 = .ok (.getfield 46, 3) := by decide +kernel
theorem dX6_tell_81 : decode cX6_tell 81 = .ok (.ifCond .eq 7, 3) := by decide +kernel
theorem dX6_tell_84 : decode cX6_tell 84 = .ok (.iconst 1, 1) := by decide +kernel
theorem dX6_tell_85 : decode cX6_tell 85 = .ok (.goto 4, 3) := by decide +kernel
theorem dX6_tell_88 : decode cX6_tell 88 = .ok (.iconst 0, 1) := by decide +kernel
theorem dX6_tell_89 : decode cX6_tell 89 = .ok (.ireturn, 1) := by decide +kernel
theorem dX6_tell_90 : decode cX6_tell 90 = .ok (.aload_n 0, 1) := by decide +kernel
theorem dX6_tell_91 : decode cX6_tell 91 = .ok (.getfield 18, 3) := by decide +kernel
theorem dX6_tell_94 : decode cX6_tell 94 = .ok (.ireturn, 1) := by decide +kernel
theorem dX6_tell_95 : decode cX6_tell 95 = .ok (.aload_n 0, 1) := by decide +kernel
theorem dX6_tell_96 : decode cX6_tell 96 = .ok (.invokevirtual 65, 3) := by decide +kernel
theorem dX6_tell_99 : decode cX6_tell 99 = .ok (.ireturn, 1) := by decide +kernel
theorem dX6_tell_100 : decode cX6_tell 100 = .ok (.aload_n 0, 1) := by decide +kernel
theorem dX6_tell_101 : decode cX6_tell 101 = .ok (.getfield 56, 3) := by decide +kernel
theorem dX6_tell_104 : decode cX6_tell 104 = .ok (.ireturn, 1) := by decide +kernel
theorem dX6_tell_105 : decode cX6_tell 105 = .ok (.aload_n 0, 1) := by decide +kernel
theorem dX6_tell_106 : decode cX6_tell 106 = .ok (.getfield 50, 3) := by decide +kernel
theorem dX6_tell_109 : decode cX6_tell 109 = .ok (.ireturn, 1) := by decide +kernel
theorem dX6_tellPiece_0 : decode cX6_tellPiece 0 = .ok (.aload_n 0, 1) := by decide +kernel
theorem dX6_tellPiece_1 : decode cX6_tellPiece 1 = .ok (.iload_n 1, 1) := by decide +kernel
theorem dX6_tellPiece_2 : decode cX6_tellPiece 2 = .ok (.invokevirtual 69, 3) := by decide +kernel
theorem dX6_tellPiece_5 : decode cX6_tellPiece 5 = .ok (.ifCond .ne 5, 3) := by decide +kernel
theorem dX6_tellPiece_8 : decode cX6_tellPiece 8 = .ok (.iconst (-1), 1) := by decide +kernel
theorem dX6_tellPiece_9 : decode cX6_tellPiece 9 = .ok (.ireturn, 1) := by decide +kernel
theorem dX6_tellPiece_10 : decode cX6_tellPiece 10 = .ok (.iload_n 2, 1) := by decide +kernel
theorem dX6_tellPiece_11 : decode cX6_tellPiece 11 = .ok (.tableswitch 46 0 2 #[25, 32, 39], 25) := by decide +kernel
theorem dX6_tellPiece_36 : decode cX6_tellPiece 36 = .ok (.aload_n 0, 1) := by decide +kernel
theorem dX6_tellPiece_37 : decode cX6_tellPiece 37 = .ok (.getfield 21, 3) := by decide +kernel
theorem dX6_tellPiece_40 : decode cX6_tellPiece 40 = .ok (.iload_n 1, 1) := by decide +kernel
theorem dX6_tellPiece_41 : decode cX6_tellPiece 41 = .ok (.iaload, 1) := by decide +kernel
theorem dX6_tellPiece_42 : decode cX6_tellPiece 42 = .ok (.ireturn, 1) := by decide +kernel
theorem dX6_tellPiece_43 : decode cX6_tellPiece 43 = .ok (.aload_n 0, 1) := by decide +kernel
theorem dX6_tellPiece_44 : decode cX6_tellPiece 44 = .ok (.getfield 25, 3) := by decide +kernel
theorem dX6_tellPiece_47 : decode cX6_tellPiece 47 = .ok (.iload_n 1, 1) := by decide +kernel
theorem dX6_tellPiece_48 : decode cX6_tellPiece 48 = .ok (.iaload, 1) := by decide +kernel
theorem dX6_tellPiece_49 : decode cX6_tellPiece 49 = .ok (.ireturn, 1) := by decide +kernel
theorem dX6_tellPiece_50 : decode cX6_tellPiece 50 = .ok (.aload_n 0, 1) := by decide +kernel
theorem dX6_tellPiece_51 : decode cX6_tellPiece 51 = .ok (.getfield 28, 3) := by decide +kernel
theorem dX6_tellPiece_54 : decode cX6_tellPiece 54 = .ok (.iload_n 1, 1) := by decide +kernel
theorem dX6_tellPiece_55 : decode cX6_tellPiece 55 = .ok (.iaload, 1) := by decide +kernel
theorem dX6_tellPiece_56 : decode cX6_tellPiece 56 = .ok (.ireturn, 1) := by decide +kernel
theorem dX6_tellPiece_57 : decode cX6_tellPiece 57 = .ok (.aload_n 0, 1) := by decide +kernel
theorem dX6_tellPiece_58 : decode cX6_tellPiece 58 = .ok (.getfield 31, 3) := by decide +kernel
theorem dX6_tellPiece_61 : decode cX6_tellPiece 61 = .ok (.iload_n 1, 1) := by decide +kernel
theorem dX6_tellPiece_62 : decode cX6_tellPiece 62 = .ok (.iaload, 1) := by decide +kernel
theorem dX6_tellPiece_63 : decode cX6_tellPiece 63 = .ok (.ireturn, 1) := by decide +kernel
theorem dX6_signsSent_0 : decode cX6_signsSent 0 = .ok (.iload_n 1, 1) := by decide +kernel
theorem dX6_signsSent_1 : decode cX6_signsSent 1 = .ok (.ifCond .lt 9, 3) := by decide +kernel
theorem dX6_signsSent_4 : decode cX6_signsSent 4 = .ok (.iload_n 1, 1) := by decide +kernel
theorem dX6_signsSent_5 : decode cX6_signsSent 5 = .ok (.bipush 12, 2) := by decide +kernel
theorem dX6_signsSent_7 : decode cX6_signsSent 7 = .ok (.if_icmp .lt 7, 3) := by decide +kernel
theorem dX6_signsSent_10 : decode cX6_signsSent 10 = .ok (.iconst 0, 1) := by decide +kernel
theorem dX6_signsSent_11 : decode cX6_signsSent 11 = .ok (.goto 9, 3) := by decide +kernel
theorem dX6_signsSent_14 : decode cX6_signsSent 14 = .ok (.aload_n 0, 1) := by decide +kernel
theorem dX6_signsSent_15 : decode cX6_signsSent 15 = .ok (.getfield 34, 3) := by decide +kernel
theorem dX6_signsSent_18 : decode cX6_signsSent 18 = .ok (.iload_n 1, 1) := by decide +kernel
theorem dX6_signsSent_19 : decode cX6_signsSent 19 = .ok (.iaload, 1) := by decide +kernel
theorem dX6_signsSent_20 : decode cX6_signsSent 20 = .ok (.ireturn, 1) := by decide +kernel
theorem dX6_signsOfAll_0 : decode cX6_signsOfAll 0 = .ok (.aload_n 0, 1) := by decide +kernel
theorem dX6_signsOfAll_1 : decode cX6_signsOfAll 1 = .ok (.iload_n 1, 1) := by decide +kernel
theorem dX6_signsOfAll_2 : decode cX6_signsOfAll 2 = .ok (.invokevirtual 73, 3) := by decide +kernel
theorem dX6_signsOfAll_5 : decode cX6_signsOfAll 5 = .ok (.istore_n 2, 1) := by decide +kernel
theorem dX6_signsOfAll_6 : decode cX6_signsOfAll 6 = .ok (.iconst 0, 1) := by decide +kernel
theorem dX6_signsOfAll_7 : decode cX6_signsOfAll 7 = .ok (.istore_n 3, 1) := by decide +kernel
theorem dX6_signsOfAll_8 : decode cX6_signsOfAll 8 = .ok (.iload_n 3, 1) := by decide +kernel
theorem dX6_signsOfAll_9 : decode cX6_signsOfAll 9 = .ok (.aload_n 0, 1) := by decide +kernel
theorem dX6_signsOfAll_10 : decode cX6_signsOfAll 10 = .ok (.getfield 56, 3) := by decide +kernel
theorem dX6_signsOfAll_13 : decode cX6_signsOfAll 13 = .ok (.if_icmp .ge 37, 3) := by decide +kernel
theorem dX6_signsOfAll_16 : decode cX6_signsOfAll 16 = .ok (.iload_n 3, 1) := by decide +kernel
theorem dX6_signsOfAll_17 : decode cX6_signsOfAll 17 = .ok (.sipush 133, 3) := by decide +kernel
theorem dX6_signsOfAll_20 : decode cX6_signsOfAll 20 = .ok (.if_icmp .ge 30, 3) := by decide +kernel
theorem dX6_signsOfAll_23 : decode cX6_signsOfAll 23 = .ok (.aload_n 0, 1) := by decide +kernel
theorem dX6_signsOfAll_24 : decode cX6_signsOfAll 24 = .ok (.getfield 21, 3) := by decide +kernel
theorem dX6_signsOfAll_27 : decode cX6_signsOfAll 27 = .ok (.iload_n 3, 1) := by decide +kernel
theorem dX6_signsOfAll_28 : decode cX6_signsOfAll 28 = .ok (.iaload, 1) := by decide +kernel
theorem dX6_signsOfAll_29 : decode cX6_signsOfAll 29 = .ok (.iload_n 1, 1) := by decide +kernel
theorem dX6_signsOfAll_30 : decode cX6_signsOfAll 30 = .ok (.if_icmp .ne 14, 3) := by decide +kernel
theorem dX6_signsOfAll_33 : decode cX6_signsOfAll 33 = .ok (.iload_n 2, 1) := by decide +kernel
theorem dX6_signsOfAll_34 : decode cX6_signsOfAll 34 = .ok (.iconst 1, 1) := by decide +kernel
theorem dX6_signsOfAll_35 : decode cX6_signsOfAll 35 = .ok (.aload_n 0, 1) := by decide +kernel
theorem dX6_signsOfAll_36 : decode cX6_signsOfAll 36 = .ok (.getfield 31, 3) := by decide +kernel
theorem dX6_signsOfAll_39 : decode cX6_signsOfAll 39 = .ok (.iload_n 3, 1) := by decide +kernel
theorem dX6_signsOfAll_40 : decode cX6_signsOfAll 40 = .ok (.iaload, 1) := by decide +kernel
theorem dX6_signsOfAll_41 : decode cX6_signsOfAll 41 = .ok (.ishl, 1) := by decide +kernel
theorem dX6_signsOfAll_42 : decode cX6_signsOfAll 42 = .ok (.ior, 1) := by decide +kernel
theorem dX6_signsOfAll_43 : decode cX6_signsOfAll 43 = .ok (.istore_n 2, 1) := by decide +kernel
theorem dX6_signsOfAll_44 : decode cX6_signsOfAll 44 = .ok (.iinc 3 1, 3) := by decide +kernel
theorem dX6_signsOfAll_47 : decode cX6_signsOfAll 47 = .ok (.goto (-39), 3) := by decide +kernel
theorem dX6_signsOfAll_50 : decode cX6_signsOfAll 50 = .ok (.iload_n 2, 1) := by decide +kernel
theorem dX6_signsOfAll_51 : decode cX6_signsOfAll 51 = .ok (.ireturn, 1) := by decide +kernel
theorem dX6_isFull_0 : decode cX6_isFull 0 = .ok (.aload_n 0, 1) := by decide +kernel
theorem dX6_isFull_1 : decode cX6_isFull 1 = .ok (.getfield 56, 3) := by decide +kernel
theorem dX6_isFull_4 : decode cX6_isFull 4 = .ok (.ifCond .lt 13, 3) := by decide +kernel
theorem dX6_isFull_7 : decode cX6_isFull 7 = .ok (.aload_n 0, 1) := by decide +kernel
theorem dX6_isFull_8 : decode cX6_isFull 8 = .ok (.getfield 56, 3) := by decide +kernel
theorem dX6_isFull_11 : decode cX6_isFull 11 = .ok (.sipush 133, 3) := by decide +kernel
theorem dX6_isFull_14 : decode cX6_isFull 14 = .ok (.if_icmp .lt 7, 3) := by decide +kernel
theorem dX6_isFull_17 : decode cX6_isFull 17 = .ok (.iconst 1, 1) := by decide +kernel
theorem dX6_isFull_18 : decode cX6_isFull 18 = .ok (.goto 4, 3) := by decide +kernel
theorem dX6_isFull_21 : decode cX6_isFull 21 = .ok (.iconst 0, 1) := by decide +kernel
theorem dX6_isFull_22 : decode cX6_isFull 22 = .ok (.ireturn, 1) := by decide +kernel
theorem dX6_keep_0 : decode cX6_keep 0 = .ok (.aload_n 0, 1) := by decide +kernel
theorem dX6_keep_1 : decode cX6_keep 1 = .ok (.invokevirtual 77, 3) := by decide +kernel
theorem dX6_keep_4 : decode cX6_keep 4 = .ok (.ifCond .eq 4, 3) := by decide +kernel
theorem dX6_keep_7 : decode cX6_keep 7 = .ok (.return_, 1) := by decide +kernel
theorem dX6_keep_8 : decode cX6_keep 8 = .ok (.aload_n 0, 1) := by decide +kernel
theorem dX6_keep_9 : decode cX6_keep 9 = .ok (.getfield 21, 3) := by decide +kernel
theorem dX6_keep_12 : decode cX6_keep 12 = .ok (.aload_n 0, 1) := by decide +kernel
theorem dX6_keep_13 : decode cX6_keep 13 = .ok (.getfield 56, 3) := by decide +kernel
theorem dX6_keep_16 : decode cX6_keep 16 = .ok (.iload_n 1, 1) := by decide +kernel
theorem dX6_keep_17 : decode cX6_keep 17 = .ok (.iastore, 1) := by decide +kernel
theorem dX6_keep_18 : decode cX6_keep 18 = .ok (.aload_n 0, 1) := by decide +kernel
theorem dX6_keep_19 : decode cX6_keep 19 = .ok (.getfield 25, 3) := by decide +kernel
theorem dX6_keep_22 : decode cX6_keep 22 = .ok (.aload_n 0, 1) := by decide +kernel
theorem dX6_keep_23 : decode cX6_keep 23 = .ok (.getfield 56, 3) := by decide +kernel
theorem dX6_keep_26 : decode cX6_keep 26 = .ok (.iload_n 2, 1) := by decide +kernel
theorem dX6_keep_27 : decode cX6_keep 27 = .ok (.iastore, 1) := by decide +kernel
theorem dX6_keep_28 : decode cX6_keep 28 = .ok (.aload_n 0, 1) := by decide +kernel
theorem dX6_keep_29 : decode cX6_keep 29 = .ok (.getfield 28, 3) := by decide +kernel
theorem dX6_keep_32 : decode cX6_keep 32 = .ok (.aload_n 0, 1) := by decide +kernel
theorem dX6_keep_33 : decode cX6_keep 33 = .ok (.getfield 56, 3) := by decide +kernel
theorem dX6_keep_36 : decode cX6_keep 36 = .ok (.iload_n 3, 1) := by decide +kernel
theorem dX6_keep_37 : decode cX6_keep 37 = .ok (.iastore, 1) := by decide +kernel
theorem dX6_keep_38 : decode cX6_keep 38 = .ok (.aload_n 0, 1) := by decide +kernel
theorem dX6_keep_39 : decode cX6_keep 39 = .ok (.getfield 31, 3) := by decide +kernel
theorem dX6_keep_42 : decode cX6_keep 42 = .ok (.aload_n 0, 1) := by decide +kernel
theorem dX6_keep_43 : decode cX6_keep 43 = .ok (.getfield 56, 3) := by decide +kernel
theorem dX6_keep_46 : decode cX6_keep 46 = .ok (.iload 4, 2) := by decide +kernel
theorem dX6_keep_48 : decode cX6_keep 48 = .ok (.iastore, 1) := by decide +kernel
theorem dX6_keep_49 : decode cX6_keep 49 = .ok (.aload_n 0, 1) := by decide +kernel
theorem dX6_keep_50 : decode cX6_keep 50 = .ok (.dup, 1) := by decide +kernel
theorem dX6_keep_51 : decode cX6_keep 51 = .ok (.getfield 56, 3) := by decide +kernel
theorem dX6_keep_54 : decode cX6_keep 54 = .ok (.iconst 1, 1) := by decide +kernel
theorem dX6_keep_55 : decode cX6_keep 55 = .ok (.iadd, 1) := by decide +kernel
theorem dX6_keep_56 : decode cX6_keep 56 = .ok (.putfield 56, 3) := by decide +kernel
theorem dX6_keep_59 : decode cX6_keep 59 = .ok (.aload_n 0, 1) := by decide +kernel
theorem dX6_keep_60 : decode cX6_keep 60 = .ok (.dup, 1) := by decide +kernel
theorem dX6_keep_61 : decode cX6_keep 61 = .ok (.getfield 53, 3) := by decide +kernel
theorem dX6_keep_64 : decode cX6_keep 64 = .ok (.iload_n 2, 1) := by decide +kernel
theorem dX6_keep_65 : decode cX6_keep 65 = .ok (.iadd, 1) := by decide +kernel
theorem dX6_keep_66 : decode cX6_keep 66 = .ok (.putfield 53, 3) := by decide +kernel
theorem dX6_keep_69 : decode cX6_keep 69 = .ok (.return_, 1) := by decide +kernel
theorem dX6_sendUnits_0 : decode cX6_sendUnits 0 = .ok (.iload_n 1, 1) := by decide +kernel
theorem dX6_sendUnits_1 : decode cX6_sendUnits 1 = .ok (.istore_n 2, 1) := by decide +kernel
theorem dX6_sendUnits_2 : decode cX6_sendUnits 2 = .ok (.iconst 0, 1) := by decide +kernel
theorem dX6_sendUnits_3 : decode cX6_sendUnits 3 = .ok (.istore_n 3, 1) := by decide +kernel
theorem dX6_sendUnits_4 : decode cX6_sendUnits 4 = .ok (.iload_n 3, 1) := by decide +kernel
theorem dX6_sendUnits_5 : decode cX6_sendUnits 5 = .ok (.sipush 133, 3) := by decide +kernel
theorem dX6_sendUnits_8 : decode cX6_sendUnits 8 = .ok (.if_icmp .ge 84, 3) := by decide +kernel
theorem dX6_sendUnits_11 : decode cX6_sendUnits 11 = .ok (.iload_n 2, 1) := by decide +kernel
theorem dX6_sendUnits_12 : decode cX6_sendUnits 12 = .ok (.ifCond .le 80, 3) := by decide +kernel
theorem dX6_sendUnits_15 : decode cX6_sendUnits 15 = .ok (.aload_n 0, 1) := by decide +kernel
theorem dX6_sendUnits_16 : decode cX6_sendUnits 16 = .ok (.iconst 0, 1) := by decide +kernel
theorem dX6_sendUnits_17 : decode cX6_sendUnits 17 = .ok (.invokevirtual 69, 3) := by decide +kernel
theorem dX6_sendUnits_20 : decode cX6_sendUnits 20 = .ok (.ifCond .eq 72, 3) := by decide +kernel
theorem dX6_sendUnits_23 : decode cX6_sendUnits 23 = .ok (.aload_n 0, 1) := by decide +kernel
theorem dX6_sendUnits_24 : decode cX6_sendUnits 24 = .ok (.invokevirtual 81, 3) := by decide +kernel
theorem dX6_sendUnits_27 : decode cX6_sendUnits 27 = .ok (.istore 4, 2) := by decide +kernel
theorem dX6_sendUnits_29 : decode cX6_sendUnits 29 = .ok (.iload_n 2, 1) := by decide +kernel
theorem dX6_sendUnits_30 : decode cX6_sendUnits 30 = .ok (.aload_n 0, 1) := by decide +kernel
theorem dX6_sendUnits_31 : decode cX6_sendUnits 31 = .ok (.getfield 25, 3) := by decide +kernel
theorem dX6_sendUnits_34 : decode cX6_sendUnits 34 = .ok (.iload 4, 2) := by decide +kernel
theorem dX6_sendUnits_36 : decode cX6_sendUnits 36 = .ok (.iaload, 1) := by decide +kernel
theorem dX6_sendUnits_37 : decode cX6_sendUnits 37 = .ok (.invokestatic 59, 3) := by decide +kernel
theorem dX6_sendUnits_40 : decode cX6_sendUnits 40 = .ok (.istore 5, 2) := by decide +kernel
theorem dX6_sendUnits_42 : decode cX6_sendUnits 42 = .ok (.iload_n 2, 1) := by decide +kernel
theorem dX6_sendUnits_43 : decode cX6_sendUnits 43 = .ok (.iload 5, 2) := by decide +kernel
theorem dX6_sendUnits_45 : decode cX6_sendUnits 45 = .ok (.isub, 1) := by decide +kernel
theorem dX6_sendUnits_46 : decode cX6_sendUnits 46 = .ok (.istore_n 2, 1) := by decide +kernel
theorem dX6_sendUnits_47 : decode cX6_sendUnits 47 = .ok (.aload_n 0, 1) := by decide +kernel
theorem dX6_sendUnits_48 : decode cX6_sendUnits 48 = .ok (.dup, 1) := by decide +kernel
theorem dX6_sendUnits_49 : decode cX6_sendUnits 49 = .ok (.getfield 50, 3) := by decide +kernel
theorem dX6_sendUnits_52 : decode cX6_sendUnits 52 = .ok (.iload 5, 2) := by decide +kernel
theorem dX6_sendUnits_54 : decode cX6_sendUnits 54 = .ok (.iadd, 1) := by decide +kernel
theorem dX6_sendUnits_55 : decode cX6_sendUnits 55 = .ok (.putfield 50, 3) := by decide +kernel
theorem dX6_sendUnits_58 : decode cX6_sendUnits 58 = .ok (.aload_n 0, 1) := by decide +kernel
theorem dX6_sendUnits_59 : decode cX6_sendUnits 59 = .ok (.getfield 25, 3) := by decide +kernel
theorem dX6_sendUnits_62 : decode cX6_sendUnits 62 = .ok (.iload 4, 2) := by decide +kernel
theorem dX6_sendUnits_64 : decode cX6_sendUnits 64 = .ok (.dup2, 1) := by decide +kernel
theorem dX6_sendUnits_65 : decode cX6_sendUnits 65 = .ok (.iaload, 1) := by decide +kernel
theorem dX6_sendUnits_66 : decode cX6_sendUnits 66 = .ok (.iload 5, 2) := by decide +kernel
theorem dX6_sendUnits_68 : decode cX6_sendUnits 68 = .ok (.isub, 1) := by decide +kernel
theorem dX6_sendUnits_69 : decode cX6_sendUnits 69 = .ok (.iastore, 1) := by decide +kernel
theorem dX6_sendUnits_70 : decode cX6_sendUnits 70 = .ok (.aload_n 0, 1) := by decide +kernel
theorem dX6_sendUnits_71 : decode cX6_sendUnits 71 = .ok (.getfield 25, 3) := by decide +kernel
theorem dX6_sendUnits_74 : decode cX6_sendUnits 74 = .ok (.iload 4, 2) := by decide +kernel
theorem dX6_sendUnits_76 : decode cX6_sendUnits 76 = .ok (.iaload, 1) := by decide +kernel
theorem dX6_sendUnits_77 : decode cX6_sendUnits 77 = .ok (.ifCond .ne 9, 3) := by decide +kernel
theorem dX6_sendUnits_80 : decode cX6_sendUnits 80 = .ok (.aload_n 0, 1) := by decide +kernel
theorem dX6_sendUnits_81 : decode cX6_sendUnits 81 = .ok (.iload 4, 2) := by decide +kernel
theorem dX6_sendUnits_83 : decode cX6_sendUnits 83 = .ok (.invokevirtual 84, 3) := by decide +kernel
theorem dX6_sendUnits_86 : decode cX6_sendUnits 86 = .ok (.iinc 3 1, 3) := by decide +kernel
theorem dX6_sendUnits_89 : decode cX6_sendUnits 89 = .ok (.goto (-85), 3) := by decide +kernel
theorem dX6_sendUnits_92 : decode cX6_sendUnits 92 = .ok (.return_, 1) := by decide +kernel
theorem dX6_mostUrgent_0 : decode cX6_mostUrgent 0 = .ok (.iconst 0, 1) := by decide +kernel
theorem dX6_mostUrgent_1 : decode cX6_mostUrgent 1 = .ok (.istore_n 1, 1) := by decide +kernel
theorem dX6_mostUrgent_2 : decode cX6_mostUrgent 2 = .ok (.iconst 1, 1) := by decide +kernel
theorem dX6_mostUrgent_3 : decode cX6_mostUrgent 3 = .ok (.istore_n 2, 1) := by decide +kernel
theorem dX6_mostUrgent_4 : decode cX6_mostUrgent 4 = .ok (.iload_n 2, 1) := by decide +kernel
theorem dX6_mostUrgent_5 : decode cX6_mostUrgent 5 = .ok (.aload_n 0, 1) := by decide +kernel
theorem dX6_mostUrgent_6 : decode cX6_mostUrgent 6 = .ok (.getfield 56, 3) := by decide +kernel
theorem dX6_mostUrgent_9 : decode cX6_mostUrgent 9 = .ok (.if_icmp .ge 33, 3) := by decide +kernel
theorem dX6_mostUrgent_12 : decode cX6_mostUrgent 12 = .ok (.iload_n 2, 1) := by decide +kernel
theorem dX6_mostUrgent_13 : decode cX6_mostUrgent 13 = .ok (.sipush 133, 3) := by decide +kernel
theorem dX6_mostUrgent_16 : decode cX6_mostUrgent 16 = .ok (.if_icmp .ge 26, 3) := by decide +kernel
theorem dX6_mostUrgent_19 : decode cX6_mostUrgent 19 = .ok (.aload_n 0, 1) := by decide +kernel
theorem dX6_mostUrgent_20 : decode cX6_mostUrgent 20 = .ok (.getfield 28, 3) := by decide +kernel
theorem dX6_mostUrgent_23 : decode cX6_mostUrgent 23 = .ok (.iload_n 2, 1) := by decide +kernel
theorem dX6_mostUrgent_24 : decode cX6_mostUrgent 24 = .ok (.iaload, 1) := by decide +kernel
theorem dX6_mostUrgent_25 : decode cX6_mostUrgent 25 = .ok (.aload_n 0, 1) := by decide +kernel
theorem dX6_mostUrgent_26 : decode cX6_mostUrgent 26 = .ok (.getfield 28, 3) := by decide +kernel
theorem dX6_mostUrgent_29 : decode cX6_mostUrgent 29 = .ok (.iload_n 1, 1) := by decide +kernel
theorem dX6_mostUrgent_30 : decode cX6_mostUrgent 30 = .ok (.iaload, 1) := by decide +kernel
theorem dX6_mostUrgent_31 : decode cX6_mostUrgent 31 = .ok (.if_icmp .le 5, 3) := by decide +kernel
theorem dX6_mostUrgent_34 : decode cX6_mostUrgent 34 = .ok (.iload_n 2, 1) := by decide +kernel
theorem dX6_mostUrgent_35 : decode cX6_mostUrgent 35 = .ok (.istore_n 1, 1) := by decide +kernel
theorem dX6_mostUrgent_36 : decode cX6_mostUrgent 36 = .ok (.iinc 2 1, 3) := by decide +kernel
theorem dX6_mostUrgent_39 : decode cX6_mostUrgent 39 = .ok (.goto (-35), 3) := by decide +kernel
theorem dX6_mostUrgent_42 : decode cX6_mostUrgent 42 = .ok (.iload_n 1, 1) := by decide +kernel
theorem dX6_mostUrgent_43 : decode cX6_mostUrgent 43 = .ok (.ireturn, 1) := by decide +kernel
theorem dX6_finishPiece_0 : decode cX6_finishPiece 0 = .ok (.aload_n 0, 1) := by decide +kernel
theorem dX6_finishPiece_1 : decode cX6_finishPiece 1 = .ok (.iload_n 1, 1) := by decide +kernel
theorem dX6_finishPiece_2 : decode cX6_finishPiece 2 = .ok (.invokevirtual 69, 3) := by decide +kernel
theorem dX6_finishPiece_5 : decode cX6_finishPiece 5 = .ok (.ifCond .ne 4, 3) := by decide +kernel
theorem dX6_finishPiece_8 : decode cX6_finishPiece 8 = .ok (.return_, 1) := by decide +kernel
theorem dX6_finishPiece_9 : decode cX6_finishPiece 9 = .ok (.aload_n 0, 1) := by decide +kernel
theorem dX6_finishPiece_10 : decode cX6_finishPiece 10 = .ok (.getfield 21, 3) := by decide +kernel
theorem dX6_finishPiece_13 : decode cX6_finishPiece 13 = .ok (.iload_n 1, 1) := by decide +kernel
theorem dX6_finishPiece_14 : decode cX6_finishPiece 14 = .ok (.iaload, 1) := by decide +kernel
theorem dX6_finishPiece_15 : decode cX6_finishPiece 15 = .ok (.istore_n 2, 1) := by decide +kernel
theorem dX6_finishPiece_16 : decode cX6_finishPiece 16 = .ok (.iload_n 2, 1) := by decide +kernel
theorem dX6_finishPiece_17 : decode cX6_finishPiece 17 = .ok (.ifCond .lt 26, 3) := by decide +kernel
theorem dX6_finishPiece_20 : decode cX6_finishPiece 20 = .ok (.iload_n 2, 1) := by decide +kernel
theorem dX6_finishPiece_21 : decode cX6_finishPiece 21 = .ok (.bipush 12, 2) := by decide +kernel
theorem dX6_finishPiece_23 : decode cX6_finishPiece 23 = .ok (.if_icmp .ge 20, 3) := by decide +kernel
theorem dX6_finishPiece_26 : decode cX6_finishPiece 26 = .ok (.aload_n 0, 1) := by decide +kernel
theorem dX6_finishPiece_27 : decode cX6_finishPiece 27 = .ok (.getfield 34, 3) := by decide +kernel
theorem dX6_finishPiece_30 : decode cX6_finishPiece 30 = .ok (.iload_n 2, 1) := by decide +kernel
theorem dX6_finishPiece_31 : decode cX6_finishPiece 31 = .ok (.dup2, 1) := by decide +kernel
theorem dX6_finishPiece_32 : decode cX6_finishPiece 32 = .ok (.iaload, 1) := by decide +kernel
theorem dX6_finishPiece_33 : decode cX6_finishPiece 33 = .ok (.iconst 1, 1) := by decide +kernel
theorem dX6_finishPiece_34 : decode cX6_finishPiece 34 = .ok (.aload_n 0, 1) := by decide +kernel
theorem dX6_finishPiece_35 : decode cX6_finishPiece 35 = .ok (.getfield 31, 3) := by decide +kernel
theorem dX6_finishPiece_38 : decode cX6_finishPiece 38 = .ok (.iload_n 1, 1) := by decide +kernel
theorem dX6_finishPiece_39 : decode cX6_finishPiece 39 = .ok (.iaload, 1) := by decide +kernel
theorem dX6_finishPiece_40 : decode cX6_finishPiece 40 = .ok (.ishl, 1) := by decide +kernel
theorem dX6_finishPiece_41 : decode cX6_finishPiece 41 = .ok (.ior, 1) := by decide +kernel
theorem dX6_finishPiece_42 : decode cX6_finishPiece 42 = .ok (.iastore, 1) := by decide +kernel
theorem dX6_finishPiece_43 : decode cX6_finishPiece 43 = .ok (.iload_n 1, 1) := by decide +kernel
theorem dX6_finishPiece_44 : decode cX6_finishPiece 44 = .ok (.istore_n 3, 1) := by decide +kernel
theorem dX6_finishPiece_45 : decode cX6_finishPiece 45 = .ok (.iload_n 3, 1) := by decide +kernel
theorem dX6_finishPiece_46 : decode cX6_finishPiece 46 = .ok (.iconst 1, 1) := by decide +kernel
theorem dX6_finishPiece_47 : decode cX6_finishPiece 47 = .ok (.iadd, 1) := by decide +kernel
theorem dX6_finishPiece_48 : decode cX6_finishPiece 48 = .ok (.aload_n 0, 1) := by decide +kernel
theorem dX6_finishPiece_49 : decode cX6_finishPiece 49 = .ok (.getfield 56, 3) := by decide +kernel
theorem dX6_finishPiece_52 : decode cX6_finishPiece 52 = .ok (.if_icmp .ge 74, 3) := by decide +kernel
theorem dX6_finishPiece_55 : decode cX6_finishPiece 55 = .ok (.iload_n 3, 1) := by decide +kernel
theorem dX6_finishPiece_56 : decode cX6_finishPiece 56 = .ok (.iconst 1, 1) := by decide +kernel
theorem dX6_finishPiece_57 : decode cX6_finishPiece 57 = .ok (.iadd, 1) := by decide +kernel
theorem dX6_finishPiece_58 : decode cX6_finishPiece 58 = .ok (.sipush 133, 3) := by decide +kernel
theorem dX6_finishPiece_61 : decode cX6_finishPiece 61 = .ok (.if_icmp .ge 65, 3) := by decide +kernel
theorem dX6_finishPiece_64 : decode cX6_finishPiece 64 = .ok (.aload_n 0, 1) := by decide +kernel
theorem dX6_finishPiece_65 : decode cX6_finishPiece 65 = .ok (.getfield 21, 3) := by decide +kernel
theorem dX6_finishPiece_68 : decode cX6_finishPiece 68 = .ok (.iload_n 3, 1) := by decide +kernel
theorem dX6_finishPiece_69 : decode cX6_finishPiece 69 = .ok (.aload_n 0, 1) := by decide +kernel
theorem dX6_finishPiece_70 : decode cX6_finishPiece 70 = .ok (.getfield 21, 3) := by decide +kernel
theorem dX6_finishPiece_73 : decode cX6_finishPiece 73 = .ok (.iload_n 3, 1) := by decide +kernel
theorem dX6_finishPiece_74 : decode cX6_finishPiece 74 = .ok (.iconst 1, 1) := by decide +kernel
theorem dX6_finishPiece_75 : decode cX6_finishPiece 75 = .ok (.iadd, 1) := by decide +kernel
theorem dX6_finishPiece_76 : decode cX6_finishPiece 76 = .ok (.iaload, 1) := by decide +kernel
theorem dX6_finishPiece_77 : decode cX6_finishPiece 77 = .ok (.iastore, 1) := by decide +kernel
theorem dX6_finishPiece_78 : decode cX6_finishPiece 78 = .ok (.aload_n 0, 1) := by decide +kernel
theorem dX6_finishPiece_79 : decode cX6_finishPiece 79 = .ok (.getfield 25, 3) := by decide +kernel
theorem dX6_finishPiece_82 : decode cX6_finishPiece 82 = .ok (.iload_n 3, 1) := by decide +kernel
theorem dX6_finishPiece_83 : decode cX6_finishPiece 83 = .ok (.aload_n 0, 1) := by decide +kernel
theorem dX6_finishPiece_84 : decode cX6_finishPiece 84 = .ok (.getfield 25, 3) := by decide +kernel
theorem dX6_finishPiece_87 : decode cX6_finishPiece 87 = .ok (.iload_n 3, 1) := by decide +kernel
theorem dX6_finishPiece_88 : decode cX6_finishPiece 88 = .ok (.iconst 1, 1) := by decide +kernel
theorem dX6_finishPiece_89 : decode cX6_finishPiece 89 = .ok (.iadd, 1) := by decide +kernel
theorem dX6_finishPiece_90 : decode cX6_finishPiece 90 = .ok (.iaload, 1) := by decide +kernel
theorem dX6_finishPiece_91 : decode cX6_finishPiece 91 = .ok (.iastore, 1) := by decide +kernel
theorem dX6_finishPiece_92 : decode cX6_finishPiece 92 = .ok (.aload_n 0, 1) := by decide +kernel
theorem dX6_finishPiece_93 : decode cX6_finishPiece 93 = .ok (.getfield 28, 3) := by decide +kernel
theorem dX6_finishPiece_96 : decode cX6_finishPiece 96 = .ok (.iload_n 3, 1) := by decide +kernel
theorem dX6_finishPiece_97 : decode cX6_finishPiece 97 = .ok (.aload_n 0, 1) := by decide +kernel
theorem dX6_finishPiece_98 : decode cX6_finishPiece 98 = .ok (.getfield 28, 3) := by decide +kernel
theorem dX6_finishPiece_101 : decode cX6_finishPiece 101 = .ok (.iload_n 3, 1) := by decide +kernel
theorem dX6_finishPiece_102 : decode cX6_finishPiece 102 = .ok (.iconst 1, 1) := by decide +kernel
theorem dX6_finishPiece_103 : decode cX6_finishPiece 103 = .ok (.iadd, 1) := by decide +kernel
theorem dX6_finishPiece_104 : decode cX6_finishPiece 104 = .ok (.iaload, 1) := by decide +kernel
theorem dX6_finishPiece_105 : decode cX6_finishPiece 105 = .ok (.iastore, 1) := by decide +kernel
theorem dX6_finishPiece_106 : decode cX6_finishPiece 106 = .ok (.aload_n 0, 1) := by decide +kernel
theorem dX6_finishPiece_107 : decode cX6_finishPiece 107 = .ok (.getfield 31, 3) := by decide +kernel
theorem dX6_finishPiece_110 : decode cX6_finishPiece 110 = .ok (.iload_n 3, 1) := by decide +kernel
theorem dX6_finishPiece_111 : decode cX6_finishPiece 111 = .ok (.aload_n 0, 1) := by decide +kernel
theorem dX6_finishPiece_112 : decode cX6_finishPiece 112 = .ok (.getfield 31, 3) := by decide +kernel
theorem dX6_finishPiece_115 : decode cX6_finishPiece 115 = .ok (.iload_n 3, 1) := by decide +kernel
theorem dX6_finishPiece_116 : decode cX6_finishPiece 116 = .ok (.iconst 1, 1) := by decide +kernel
theorem dX6_finishPiece_117 : decode cX6_finishPiece 117 = .ok (.iadd, 1) := by decide +kernel
theorem dX6_finishPiece_118 : decode cX6_finishPiece 118 = .ok (.iaload, 1) := by decide +kernel
theorem dX6_finishPiece_119 : decode cX6_finishPiece 119 = .ok (.iastore, 1) := by decide +kernel
theorem dX6_finishPiece_120 : decode cX6_finishPiece 120 = .ok (.iinc 3 1, 3) := by decide +kernel
theorem dX6_finishPiece_123 : decode cX6_finishPiece 123 = .ok (.goto (-78), 3) := by decide +kernel
theorem dX6_finishPiece_126 : decode cX6_finishPiece 126 = .ok (.aload_n 0, 1) := by decide +kernel
theorem dX6_finishPiece_127 : decode cX6_finishPiece 127 = .ok (.dup, 1) := by decide +kernel
theorem dX6_finishPiece_128 : decode cX6_finishPiece 128 = .ok (.getfield 56, 3) := by decide +kernel
theorem dX6_finishPiece_131 : decode cX6_finishPiece 131 = .ok (.iconst 1, 1) := by decide +kernel
theorem dX6_finishPiece_132 : decode cX6_finishPiece 132 = .ok (.isub, 1) := by decide +kernel
theorem dX6_finishPiece_133 : decode cX6_finishPiece 133 = .ok (.putfield 56, 3) := by decide +kernel
theorem dX6_finishPiece_136 : decode cX6_finishPiece 136 = .ok (.return_, 1) := by decide +kernel
theorem dX7_init_0 : decode cX7_init 0 = .ok (.aload_n 0, 1) := by decide +kernel
theorem dX7_init_1 : decode cX7_init 1 = .ok (.invokespecial 3, 3) := by decide +kernel
theorem dX7_init_4 : decode cX7_init 4 = .ok (.aload_n 0, 1) := by decide +kernel
theorem dX7_init_5 : decode cX7_init 5 = .ok (.bipush 12, 2) := by decide +kernel
theorem dX7_init_7 : decode cX7_init 7 = .ok (.newarray .int, 2) := by decide +kernel
theorem dX7_init_9 : decode cX7_init 9 = .ok (.putfield 9, 3) := by decide +kernel
theorem dX7_init_12 : decode cX7_init 12 = .ok (.aload_n 0, 1) := by decide +kernel
theorem dX7_init_13 : decode cX7_init 13 = .ok (.bipush 12, 2) := by decide +kernel
theorem dX7_init_15 : decode cX7_init 15 = .ok (.newarray .int, 2) := by decide +kernel
theorem dX7_init_17 : decode cX7_init 17 = .ok (.putfield 15, 3) := by decide +kernel
theorem dX7_init_20 : decode cX7_init 20 = .ok (.aload_n 0, 1) := by decide +kernel
theorem dX7_init_21 : decode cX7_init 21 = .ok (.bipush 12, 2) := by decide +kernel
theorem dX7_init_23 : decode cX7_init 23 = .ok (.newarray .int, 2) := by decide +kernel
theorem dX7_init_25 : decode cX7_init 25 = .ok (.putfield 18, 3) := by decide +kernel
theorem dX7_init_28 : decode cX7_init 28 = .ok (.aload_n 0, 1) := by decide +kernel
theorem dX7_init_29 : decode cX7_init 29 = .ok (.bipush 12, 2) := by decide +kernel
theorem dX7_init_31 : decode cX7_init 31 = .ok (.newarray .int, 2) := by decide +kernel
theorem dX7_init_33 : decode cX7_init 33 = .ok (.putfield 21, 3) := by decide +kernel
theorem dX7_init_36 : decode cX7_init 36 = .ok (.return_, 1) := by decide +kernel
theorem dX7_isFull_0 : decode cX7_isFull 0 = .ok (.aload_n 0, 1) := by decide +kernel
theorem dX7_isFull_1 : decode cX7_isFull 1 = .ok (.getfield 24, 3) := by decide +kernel
theorem dX7_isFull_4 : decode cX7_isFull 4 = .ok (.bipush 12, 2) := by decide +kernel
theorem dX7_isFull_6 : decode cX7_isFull 6 = .ok (.if_icmp .lt 7, 3) := by decide +kernel
theorem dX7_isFull_9 : decode cX7_isFull 9 = .ok (.iconst 1, 1) := by decide +kernel
theorem dX7_isFull_10 : decode cX7_isFull 10 = .ok (.goto 4, 3) := by decide +kernel
theorem dX7_isFull_13 : decode cX7_isFull 13 = .ok (.iconst 0, 1) := by decide +kernel
theorem dX7_isFull_14 : decode cX7_isFull 14 = .ok (.ireturn, 1) := by decide +kernel
theorem dX7_has_0 : decode cX7_has 0 = .ok (.iload_n 1, 1) := by decide +kernel
theorem dX7_has_1 : decode cX7_has 1 = .ok (.ifCond .lt 21, 3) := by decide +kernel
theorem dX7_has_4 : decode cX7_has 4 = .ok (.iload_n 1, 1) := by decide +kernel
theorem dX7_has_5 : decode cX7_has 5 = .ok (.aload_n 0, 1) := by decide +kernel
theorem dX7_has_6 : decode cX7_has 6 = .ok (.getfield 24, 3) := by decide +kernel
theorem dX7_has_9 : decode cX7_has 9 = .ok (.if_icmp .ge 13, 3) := by decide +kernel
theorem dX7_has_12 : decode cX7_has 12 = .ok (.iload_n 1, 1) := by decide +kernel
theorem dX7_has_13 : decode cX7_has 13 = .ok (.bipush 12, 2) := by decide +kernel
theorem dX7_has_15 : decode cX7_has 15 = .ok (.if_icmp .ge 7, 3) := by decide +kernel
theorem dX7_has_18 : decode cX7_has 18 = .ok (.iconst 1, 1) := by decide +kernel
theorem dX7_has_19 : decode cX7_has 19 = .ok (.goto 4, 3) := by decide +kernel
theorem dX7_has_22 : decode cX7_has 22 = .ok (.iconst 0, 1) := by decide +kernel
theorem dX7_has_23 : decode cX7_has 23 = .ok (.ireturn, 1) := by decide +kernel
theorem dX7_append_0 : decode cX7_append 0 = .ok (.aload_n 0, 1) := by decide +kernel
theorem dX7_append_1 : decode cX7_append 1 = .ok (.invokevirtual 28, 3) := by decide +kernel
theorem dX7_append_4 : decode cX7_append 4 = .ok (.ifCond .ne 10, 3) := by decide +kernel
theorem dX7_append_7 : decode cX7_append 7 = .ok (.aload_n 0, 1) := by decide +kernel
theorem dX7_append_8 : decode cX7_append 8 = .ok (.getfield 24, 3) := by decide +kernel
theorem dX7_append_11 : decode cX7_append 11 = .ok (.ifCond .ge 5, 3) := by decide +kernel
theorem dX7_append_14 : decode cX7_append 14 = .ok (.iconst (-1), 1) := by decide +kernel
theorem dX7_append_15 : decode cX7_append 15 = .ok (.ireturn, 1) := by decide +kernel
theorem dX7_append_16 : decode cX7_append 16 = .ok (.aload_n 0, 1) := by decide +kernel
theorem dX7_append_17 : decode cX7_append 17 = .ok (.getfield 9, 3) := by decide +kernel
theorem dX7_append_20 : decode cX7_append 20 = .ok (.aload_n 0, 1) := by decide +kernel
theorem dX7_append_21 : decode cX7_append 21 = .ok (.getfield 24, 3) := by decide +kernel
theorem dX7_append_24 : decode cX7_append 24 = .ok (.iload_n 1, 1) := by decide +kernel
theorem dX7_append_25 : decode cX7_append 25 = .ok (.iastore, 1) := by decide +kernel
theorem dX7_append_26 : decode cX7_append 26 = .ok (.aload_n 0, 1) := by decide +kernel
theorem dX7_append_27 : decode cX7_append 27 = .ok (.getfield 15, 3) := by decide +kernel
theorem dX7_append_30 : decode cX7_append 30 = .ok (.aload_n 0, 1) := by decide +kernel
theorem dX7_append_31 : decode cX7_append 31 = .ok (.getfield 24, 3) := by decide +kernel
theorem dX7_append_34 : decode cX7_append 34 = .ok (.iload_n 2, 1) := by decide +kernel
theorem dX7_append_35 : decode cX7_append 35 = .ok (.iastore, 1) := by decide +kernel
theorem dX7_append_36 : decode cX7_append 36 = .ok (.aload_n 0, 1) := by decide +kernel
theorem dX7_append_37 : decode cX7_append 37 = .ok (.getfield 18, 3) := by decide +kernel
theorem dX7_append_40 : decode cX7_append 40 = .ok (.aload_n 0, 1) := by decide +kernel
theorem dX7_append_41 : decode cX7_append 41 = .ok (.getfield 24, 3) := by decide +kernel
theorem dX7_append_44 : decode cX7_append 44 = .ok (.iload_n 3, 1) := by decide +kernel
theorem dX7_append_45 : decode cX7_append 45 = .ok (.iastore, 1) := by decide +kernel
theorem dX7_append_46 : decode cX7_append 46 = .ok (.aload_n 0, 1) := by decide +kernel
theorem dX7_append_47 : decode cX7_append 47 = .ok (.getfield 21, 3) := by decide +kernel
theorem dX7_append_50 : decode cX7_append 50 = .ok (.aload_n 0, 1) := by decide +kernel
theorem dX7_append_51 : decode cX7_append 51 = .ok (.getfield 24, 3) := by decide +kernel
theorem dX7_append_54 : decode cX7_append 54 = .ok (.iload 4, 2) := by decide +kernel
theorem dX7_append_56 : decode cX7_append 56 = .ok (.iastore, 1) := by decide +kernel
theorem dX7_append_57 : decode cX7_append 57 = .ok (.aload_n 0, 1) := by decide +kernel
theorem dX7_append_58 : decode cX7_append 58 = .ok (.dup, 1) := by decide +kernel
theorem dX7_append_59 : decode cX7_append 59 = .ok (.getfield 24, 3) := by decide +kernel
theorem dX7_append_62 : decode cX7_append 62 = .ok (.iconst 1, 1) := by decide +kernel
theorem dX7_append_63 : decode cX7_append 63 = .ok (.iadd, 1) := by decide +kernel
theorem dX7_append_64 : decode cX7_append 64 = .ok (.putfield 24, 3) := by decide +kernel
theorem dX7_append_67 : decode cX7_append 67 = .ok (.aload_n 0, 1) := by decide +kernel
theorem dX7_append_68 : decode cX7_append 68 = .ok (.getfield 24, 3) := by decide +kernel
theorem dX7_append_71 : decode cX7_append 71 = .ok (.iconst 1, 1) := by decide +kernel
theorem dX7_append_72 : decode cX7_append 72 = .ok (.isub, 1) := by decide +kernel
theorem dX7_append_73 : decode cX7_append 73 = .ok (.ireturn, 1) := by decide +kernel
theorem dX7_xOf_0 : decode cX7_xOf 0 = .ok (.aload_n 0, 1) := by decide +kernel
theorem dX7_xOf_1 : decode cX7_xOf 1 = .ok (.iload_n 1, 1) := by decide +kernel
theorem dX7_xOf_2 : decode cX7_xOf 2 = .ok (.invokevirtual 32, 3) := by decide +kernel
theorem dX7_xOf_5 : decode cX7_xOf 5 = .ok (.ifCond .eq 12, 3) := by decide +kernel
theorem dX7_xOf_8 : decode cX7_xOf 8 = .ok (.aload_n 0, 1) := by decide +kernel
theorem dX7_xOf_9 : decode cX7_xOf 9 = .ok (.getfield 9, 3) := by decide +kernel
theorem dX7_xOf_12 : decode cX7_xOf 12 = .ok (.iload_n 1, 1) := by decide +kernel
theorem dX7_xOf_13 : decode cX7_xOf 13 = .ok (.iaload, 1) := by decide +kernel
theorem dX7_xOf_14 : decode cX7_xOf 14 = .ok (.goto 4, 3) := by decide +kernel
theorem dX7_xOf_17 : decode cX7_xOf 17 = .ok (.iconst (-1), 1) := by decide +kernel
theorem dX7_xOf_18 : decode cX7_xOf 18 = .ok (.ireturn, 1) := by decide +kernel
theorem dX7_yOf_0 : decode cX7_yOf 0 = .ok (.aload_n 0, 1) := by decide +kernel
theorem dX7_yOf_1 : decode cX7_yOf 1 = .ok (.iload_n 1, 1) := by decide +kernel
theorem dX7_yOf_2 : decode cX7_yOf 2 = .ok (.invokevirtual 32, 3) := by decide +kernel
theorem dX7_yOf_5 : decode cX7_yOf 5 = .ok (.ifCond .eq 12, 3) := by decide +kernel
theorem dX7_yOf_8 : decode cX7_yOf 8 = .ok (.aload_n 0, 1) := by decide +kernel
theorem dX7_yOf_9 : decode cX7_yOf 9 = .ok (.getfield 15, 3) := by decide +kernel
theorem dX7_yOf_12 : decode cX7_yOf 12 = .ok (.iload_n 1, 1) := by decide +kernel
theorem dX7_yOf_13 : decode cX7_yOf 13 = .ok (.iaload, 1) := by decide +kernel
theorem dX7_yOf_14 : decode cX7_yOf 14 = .ok (.goto 4, 3) := by decide +kernel
theorem dX7_yOf_17 : decode cX7_yOf 17 = .ok (.iconst (-1), 1) := by decide +kernel
theorem dX7_yOf_18 : decode cX7_yOf 18 = .ok (.ireturn, 1) := by decide +kernel
theorem dX7_valueOf_0 : decode cX7_valueOf 0 = .ok (.aload_n 0, 1) := by decide +kernel
theorem dX7_valueOf_1 : decode cX7_valueOf 1 = .ok (.iload_n 1, 1) := by decide +kernel
theorem dX7_valueOf_2 : decode cX7_valueOf 2 = .ok (.invokevirtual 32, 3) := by decide +kernel
theorem dX7_valueOf_5 : decode cX7_valueOf 5 = .ok (.ifCond .eq 12, 3) := by decide +kernel
theorem dX7_valueOf_8 : decode cX7_valueOf 8 = .ok (.aload_n 0, 1) := by decide +kernel
theorem dX7_valueOf_9 : decode cX7_valueOf 9 = .ok (.getfield 18, 3) := by decide +kernel
theorem dX7_valueOf_12 : decode cX7_valueOf 12 = .ok (.iload_n 1, 1) := by decide +kernel
theorem dX7_valueOf_13 : decode cX7_valueOf 13 = .ok (.iaload, 1) := by decide +kernel
theorem dX7_valueOf_14 : decode cX7_valueOf 14 = .ok (.goto 4, 3) := by decide +kernel
theorem dX7_valueOf_17 : decode cX7_valueOf 17 = .ok (.iconst 0, 1) := by decide +kernel
theorem dX7_valueOf_18 : decode cX7_valueOf 18 = .ok (.ireturn, 1) := by decide +kernel
theorem dX7_needOf_0 : decode cX7_needOf 0 = .ok (.aload_n 0, 1) := by decide +kernel
theorem dX7_needOf_1 : decode cX7_needOf 1 = .ok (.iload_n 1, 1) := by decide +kernel
theorem dX7_needOf_2 : decode cX7_needOf 2 = .ok (.invokevirtual 32, 3) := by decide +kernel
theorem dX7_needOf_5 : decode cX7_needOf 5 = .ok (.ifCond .eq 12, 3) := by decide +kernel
theorem dX7_needOf_8 : decode cX7_needOf 8 = .ok (.aload_n 0, 1) := by decide +kernel
theorem dX7_needOf_9 : decode cX7_needOf 9 = .ok (.getfield 21, 3) := by decide +kernel
theorem dX7_needOf_12 : decode cX7_needOf 12 = .ok (.iload_n 1, 1) := by decide +kernel
theorem dX7_needOf_13 : decode cX7_needOf 13 = .ok (.iaload, 1) := by decide +kernel
theorem dX7_needOf_14 : decode cX7_needOf 14 = .ok (.goto 4, 3) := by decide +kernel
theorem dX7_needOf_17 : decode cX7_needOf 17 = .ok (.iconst 0, 1) := by decide +kernel
theorem dX7_needOf_18 : decode cX7_needOf 18 = .ok (.ireturn, 1) := by decide +kernel
theorem dX7_isMet_0 : decode cX7_isMet 0 = .ok (.aload_n 0, 1) := by decide +kernel
theorem dX7_isMet_1 : decode cX7_isMet 1 = .ok (.iload_n 1, 1) := by decide +kernel
theorem dX7_isMet_2 : decode cX7_isMet 2 = .ok (.invokevirtual 36, 3) := by decide +kernel
theorem dX7_isMet_5 : decode cX7_isMet 5 = .ok (.istore_n 3, 1) := by decide +kernel
theorem dX7_isMet_6 : decode cX7_isMet 6 = .ok (.iload_n 3, 1) := by decide +kernel
theorem dX7_isMet_7 : decode cX7_isMet 7 = .ok (.iconst 4, 1) := by decide +kernel
theorem dX7_isMet_8 : decode cX7_isMet 8 = .ok (.if_icmp .ne 10, 3) := by decide +kernel
theorem dX7_isMet_11 : decode cX7_isMet 11 = .ok (.iload_n 2, 1) := by decide +kernel
theorem dX7_isMet_12 : decode cX7_isMet 12 = .ok (.invokestatic 40, 3) := by decide +kernel
theorem dX7_isMet_15 : decode cX7_isMet 15 = .ok (.goto 16, 3) := by decide +kernel
theorem dX7_isMet_18 : decode cX7_isMet 18 = .ok (.iload_n 2, 1) := by decide +kernel
theorem dX7_isMet_19 : decode cX7_isMet 19 = .ok (.invokestatic 43, 3) := by decide +kernel
theorem dX7_isMet_22 : decode cX7_isMet 22 = .ok (.iload_n 3, 1) := by decide +kernel
theorem dX7_isMet_23 : decode cX7_isMet 23 = .ok (.if_icmp .lt 7, 3) := by decide +kernel
theorem dX7_isMet_26 : decode cX7_isMet 26 = .ok (.iconst 1, 1) := by decide +kernel
theorem dX7_isMet_27 : decode cX7_isMet 27 = .ok (.goto 4, 3) := by decide +kernel
theorem dX7_isMet_30 : decode cX7_isMet 30 = .ok (.iconst 0, 1) := by decide +kernel
theorem dX7_isMet_31 : decode cX7_isMet 31 = .ok (.ireturn, 1) := by decide +kernel
theorem dX7_tell_0 : decode cX7_tell 0 = .ok (.aload_n 3, 1) := by decide +kernel
theorem dX7_tell_1 : decode cX7_tell 1 = .ok (.iload_n 1, 1) := by decide +kernel
theorem dX7_tell_2 : decode cX7_tell 2 = .ok (.invokevirtual 46, 3) := by decide +kernel
theorem dX7_tell_5 : decode cX7_tell 5 = .ok (.istore 4, 2) := by decide +kernel
theorem dX7_tell_7 : decode cX7_tell 7 = .ok (.iload_n 2, 1) := by decide +kernel
theorem dX7_tell_8 : decode cX7_tell 8 = .ok (.tableswitch 77 0 4 #[36, 42, 48, 54, 63], 36) := by decide +kernel
theorem dX7_tell_44 : decode cX7_tell 44 = .ok (.aload_n 0, 1) := by decide +kernel
theorem dX7_tell_45 : decode cX7_tell 45 = .ok (.iload_n 1, 1) := by decide +kernel
theorem dX7_tell_46 : decode cX7_tell 46 = .ok (.invokevirtual 51, 3) := by decide +kernel
theorem dX7_tell_49 : decode cX7_tell 49 = .ok (.ireturn, 1) := by decide +kernel
theorem dX7_tell_50 : decode cX7_tell 50 = .ok (.aload_n 0, 1) := by decide +kernel
theorem dX7_tell_51 : decode cX7_tell 51 = .ok (.iload_n 1, 1) := by decide +kernel
theorem dX7_tell_52 : decode cX7_tell 52 = .ok (.invokevirtual 36, 3) := by decide +kernel
theorem dX7_tell_55 : decode cX7_tell 55 = .ok (.ireturn, 1) := by decide +kernel
theorem dX7_tell_56 : decode cX7_tell 56 = .ok (.iload 4, 2) := by decide +kernel
theorem dX7_tell_58 : decode cX7_tell 58 = .ok (.invokestatic 43, 3) := by decide +kernel
theorem dX7_tell_61 : decode cX7_tell 61 = .ok (.ireturn, 1) := by decide +kernel
theorem dX7_tell_62 : decode cX7_tell 62 = .ok (.aload_n 3, 1) := by decide +kernel
theorem dX7_tell_63 : decode cX7_tell 63 = .ok (.iload_n 1, 1) := by decide +kernel
theorem dX7_tell_64 : decode cX7_tell 64 = .ok (.invokevirtual 54, 3) := by decide +kernel
theorem dX7_tell_67 : decode cX7_tell 67 = .ok (.invokestatic 43, 3) := by decide +kernel
theorem dX7_tell_70 : decode cX7_tell 70 = .ok (.ireturn, 1) := by decide +kernel
theorem dX7_tell_71 : decode cX7_tell 71 = .ok (.iload 4, 2) := by decide +kernel
theorem dX7_tell_73 : decode cX7_tell 73 = .ok (.invokestatic 40, 3) := by decide +kernel
theorem dX7_tell_76 : decode cX7_tell 76 = .ok (.ifCond .eq 7, 3) := by decide +kernel
theorem dX7_tell_79 : decode cX7_tell 79 = .ok (.iconst 1, 1) := by decide +kernel
theorem dX7_tell_80 : decode cX7_tell 80 = .ok (.goto 4, 3) := by decide +kernel
theorem dX7_tell_83 : decode cX7_tell 83 = .ok (.iconst 0, 1) := by decide +kernel
theorem dX7_tell_84 : decode cX7_tell 84 = .ok (.ireturn, 1) := by decide +kernel
theorem dX7_tell_85 : decode cX7_tell 85 = .ok (.aload_n 0, 1) := by decide +kernel
theorem dX7_tell_86 : decode cX7_tell 86 = .ok (.iload_n 1, 1) := by decide +kernel
theorem dX7_tell_87 : decode cX7_tell 87 = .ok (.iload 4, 2) := by decide +kernel
theorem dX7_tell_89 : decode cX7_tell 89 = .ok (.invokevirtual 57, 3) := by decide +kernel
theorem dX7_tell_92 : decode cX7_tell 92 = .ok (.ifCond .eq 7, 3) := by decide +kernel
theorem dX7_tell_95 : decode cX7_tell 95 = .ok (.iconst 1, 1) := by decide +kernel
theorem dX7_tell_96 : decode cX7_tell 96 = .ok (.goto 4, 3) := by decide +kernel
theorem dX7_tell_99 : decode cX7_tell 99 = .ok (.iconst 0, 1) := by decide +kernel
theorem dX7_tell_100 : decode cX7_tell 100 = .ok (.ireturn, 1) := by decide +kernel
theorem dX7_octantsOf_0 : decode cX7_octantsOf 0 = .ok (.iload_n 0, 1) := by decide +kernel
theorem dX7_octantsOf_1 : decode cX7_octantsOf 1 = .ok (.sipush (-513), 3) := by decide +kernel
theorem dX7_octantsOf_4 : decode cX7_octantsOf 4 = .ok (.iand, 1) := by decide +kernel
theorem dX7_octantsOf_5 : decode cX7_octantsOf 5 = .ok (.invokestatic 61, 3) := by decide +kernel
theorem dX7_octantsOf_8 : decode cX7_octantsOf 8 = .ok (.ireturn, 1) := by decide +kernel
theorem dX7_hasTouch_0 : decode cX7_hasTouch 0 = .ok (.iload_n 0, 1) := by decide +kernel
theorem dX7_hasTouch_1 : decode cX7_hasTouch 1 = .ok (.sipush 512, 3) := by decide +kernel
theorem dX7_hasTouch_4 : decode cX7_hasTouch 4 = .ok (.iand, 1) := by decide +kernel
theorem dX7_hasTouch_5 : decode cX7_hasTouch 5 = .ok (.ifCond .eq 7, 3) := by decide +kernel
theorem dX7_hasTouch_8 : decode cX7_hasTouch 8 = .ok (.iconst 1, 1) := by decide +kernel
theorem dX7_hasTouch_9 : decode cX7_hasTouch 9 = .ok (.goto 4, 3) := by decide +kernel
theorem dX7_hasTouch_12 : decode cX7_hasTouch 12 = .ok (.iconst 0, 1) := by decide +kernel
theorem dX7_hasTouch_13 : decode cX7_hasTouch 13 = .ok (.ireturn, 1) := by decide +kernel
theorem dX8_init_0 : decode cX8_init 0 = .ok (.aload_n 0, 1) := by decide +kernel
theorem dX8_init_1 : decode cX8_init 1 = .ok (.invokespecial 3, 3) := by decide +kernel
theorem dX8_init_4 : decode cX8_init 4 = .ok (.aload_n 0, 1) := by decide +kernel
theorem dX8_init_5 : decode cX8_init 5 = .ok (.sipush 576, 3) := by decide +kernel
theorem dX8_init_8 : decode cX8_init 8 = .ok (.newarray .int, 2) := by decide +kernel
theorem dX8_init_10 : decode cX8_init 10 = .ok (.putfield 9, 3) := by decide +kernel
theorem dX8_init_13 : decode cX8_init 13 = .ok (.aload_n 0, 1) := by decide +kernel
theorem dX8_init_14 : decode cX8_init 14 = .ok (.sipush 576, 3) := by decide +kernel
theorem dX8_init_17 : decode cX8_init 17 = .ok (.newarray .int, 2) := by decide +kernel
theorem dX8_init_19 : decode cX8_init 19 = .ok (.putfield 15, 3) := by decide +kernel
theorem dX8_init_22 : decode cX8_init 22 = .ok (.aload_n 0, 1) := by decide +kernel
theorem dX8_init_23 : decode cX8_init 23 = .ok (.aload_n 1, 1) := by decide +kernel
theorem dX8_init_24 : decode cX8_init 24 = .ok (.putfield 18, 3) := by decide +kernel
theorem dX8_init_27 : decode cX8_init 27 = .ok (.return_, 1) := by decide +kernel
theorem dX8_measureTo_0 : decode cX8_measureTo 0 = .ok (.aload_n 0, 1) := by decide +kernel
theorem dX8_measureTo_1 : decode cX8_measureTo 1 = .ok (.iload_n 1, 1) := by decide +kernel
theorem dX8_measureTo_2 : decode cX8_measureTo 2 = .ok (.invokevirtual 22, 3) := by decide +kernel
theorem dX8_measureTo_5 : decode cX8_measureTo 5 = .ok (.iconst 0, 1) := by decide +kernel
theorem dX8_measureTo_6 : decode cX8_measureTo 6 = .ok (.istore_n 2, 1) := by decide +kernel
theorem dX8_measureTo_7 : decode cX8_measureTo 7 = .ok (.iload_n 2, 1) := by decide +kernel
theorem dX8_measureTo_8 : decode cX8_measureTo 8 = .ok (.sipush 576, 3) := by decide +kernel
theorem dX8_measureTo_11 : decode cX8_measureTo 11 = .ok (.if_icmp .ge 68, 3) := by decide +kernel
theorem dX8_measureTo_14 : decode cX8_measureTo 14 = .ok (.aload_n 0, 1) := by decide +kernel
theorem dX8_measureTo_15 : decode cX8_measureTo 15 = .ok (.getfield 26, 3) := by decide +kernel
theorem dX8_measureTo_18 : decode cX8_measureTo 18 = .ok (.ifCond .le 61, 3) := by decide +kernel
theorem dX8_measureTo_21 : decode cX8_measureTo 21 = .ok (.aload_n 0, 1) := by decide +kernel
theorem dX8_measureTo_22 : decode cX8_measureTo 22 = .ok (.invokevirtual 30, 3) := by decide +kernel
theorem dX8_measureTo_25 : decode cX8_measureTo 25 = .ok (.istore_n 3, 1) := by decide +kernel
theorem dX8_measureTo_26 : decode cX8_measureTo 26 = .ok (.iconst 0, 1) := by decide +kernel
theorem dX8_measureTo_27 : decode cX8_measureTo 27 = .ok (.istore 4, 2) := by decide +kernel
theorem dX8_measureTo_29 : decode cX8_measureTo 29 = .ok (.iload 4, 2) := by decide +kernel
theorem dX8_measureTo_31 : decode cX8_measureTo 31 = .ok (.bipush 8, 2) := by decide +kernel
theorem dX8_measureTo_33 : decode cX8_measureTo 33 = .ok (.if_icmp .ge 40, 3) := by decide +kernel
theorem dX8_measureTo_36 : decode cX8_measureTo 36 = .ok (.iload_n 3, 1) := by decide +kernel
theorem dX8_measureTo_37 : decode cX8_measureTo 37 = .ok (.iload 4, 2) := by decide +kernel
theorem dX8_measureTo_39 : decode cX8_measureTo 39 = .ok (.iconst 4, 1) := by decide +kernel
theorem dX8_measureTo_40 : decode cX8_measureTo 40 = .ok (.iadd, 1) := by decide +kernel
theorem dX8_measureTo_41 : decode cX8_measureTo 41 = .ok (.bipush 8, 2) := by decide +kernel
theorem dX8_measureTo_43 : decode cX8_measureTo 43 = .ok (.irem, 1) := by decide +kernel
theorem dX8_measureTo_44 : decode cX8_measureTo 44 = .ok (.invokestatic 34, 3) := by decide +kernel
theorem dX8_measureTo_47 : decode cX8_measureTo 47 = .ok (.istore 5, 2) := by decide +kernel
theorem dX8_measureTo_49 : decode cX8_measureTo 49 = .ok (.aload_n 0, 1) := by decide +kernel
theorem dX8_measureTo_50 : decode cX8_measureTo 50 = .ok (.iload 5, 2) := by decide +kernel
theorem dX8_measureTo_52 : decode cX8_measureTo 52 = .ok (.iload_n 3, 1) := by decide +kernel
theorem dX8_measureTo_53 : decode cX8_measureTo 53 = .ok (.aload_n 0, 1) := by decide +kernel
theorem dX8_measureTo_54 : decode cX8_measureTo 54 = .ok (.getfield 18, 3) := by decide +kernel
theorem dX8_measureTo_57 : decode cX8_measureTo 57 = .ok (.iload 5, 2) := by decide +kernel
theorem dX8_measureTo_59 : decode cX8_measureTo 59 = .ok (.iload 4, 2) := by decide +kernel
theorem dX8_measureTo_61 : decode cX8_measureTo 61 = .ok (.invokevirtual 40, 3) := by decide +kernel
theorem dX8_measureTo_64 : decode cX8_measureTo 64 = .ok (.invokevirtual 43, 3) := by decide +kernel
theorem dX8_measureTo_67 : decode cX8_measureTo 67 = .ok (.iinc 4 1, 3) := by decide +kernel
theorem dX8_measureTo_70 : decode cX8_measureTo 70 = .ok (.goto (-41), 3) := by decide +kernel
theorem dX8_measureTo_73 : decode cX8_measureTo 73 = .ok (.iinc 2 1, 3) := by decide +kernel
theorem dX8_measureTo_76 : decode cX8_measureTo 76 = .ok (.goto (-69), 3) := by decide +kernel
theorem dX8_measureTo_79 : decode cX8_measureTo 79 = .ok (.return_, 1) := by decide +kernel
theorem dX8_measureFrom_0 : decode cX8_measureFrom 0 = .ok (.aload_n 0, 1) := by decide +kernel
theorem dX8_measureFrom_1 : decode cX8_measureFrom 1 = .ok (.iload_n 1, 1) := by decide +kernel
theorem dX8_measureFrom_2 : decode cX8_measureFrom 2 = .ok (.invokevirtual 22, 3) := by decide +kernel
theorem dX8_measureFrom_5 : decode cX8_measureFrom 5 = .ok (.iconst 0, 1) := by decide +kernel
theorem dX8_measureFrom_6 : decode cX8_measureFrom 6 = .ok (.istore_n 2, 1) := by decide +kernel
theorem dX8_measureFrom_7 : decode cX8_measureFrom 7 = .ok (.iload_n 2, 1) := by decide +kernel
theorem dX8_measureFrom_8 : decode cX8_measureFrom 8 = .ok (.sipush 576, 3) := by decide +kernel
theorem dX8_measureFrom_11 : decode cX8_measureFrom 11 = .ok (.if_icmp .ge 62, 3) := by decide +kernel
theorem dX8_measureFrom_14 : decode cX8_measureFrom 14 = .ok (.aload_n 0, 1) := by decide +kernel
theorem dX8_measureFrom_15 : decode cX8_measureFrom 15 = .ok (.getfield 26, 3) := by decide +kernel
theorem dX8_measureFrom_18 : decode cX8_measureFrom 18 = .ok (.ifCond .le 55, 3) := by decide +kernel
theorem dX8_measureFrom_21 : decode cX8_measureFrom 21 = .ok (.aload_n 0, 1) := by decide +kernel
theorem dX8_measureFrom_22 : decode cX8_measureFrom 22 = .ok (.invokevirtual 30, 3) := by decide +kernel
theorem dX8_measureFrom_25 : decode cX8_measureFrom 25 = .ok (.istore_n 3, 1) := by decide +kernel
theorem dX8_measureFrom_26 : decode cX8_measureFrom 26 = .ok (.iconst 0, 1) := by decide +kernel
theorem dX8_measureFrom_27 : decode cX8_measureFrom 27 = .ok (.istore 4, 2) := by decide +kernel
theorem dX8_measureFrom_29 : decode cX8_measureFrom 29 = .ok (.iload 4, 2) := by decide +kernel
theorem dX8_measureFrom_31 : decode cX8_measureFrom 31 = .ok (.bipush 8, 2) := by decide +kernel
theorem dX8_measureFrom_33 : decode cX8_measureFrom 33 = .ok (.if_icmp .ge 34, 3) := by decide +kernel
theorem dX8_measureFrom_36 : decode cX8_measureFrom 36 = .ok (.iload_n 3, 1) := by decide +kernel
theorem dX8_measureFrom_37 : decode cX8_measureFrom 37 = .ok (.iload 4, 2) := by decide +kernel
theorem dX8_measureFrom_39 : decode cX8_measureFrom 39 = .ok (.invokestatic 34, 3) := by decide +kernel
theorem dX8_measureFrom_42 : decode cX8_measureFrom 42 = .ok (.istore 5, 2) := by decide +kernel
theorem dX8_measureFrom_44 : decode cX8_measureFrom 44 = .ok (.aload_n 0, 1) := by decide +kernel
theorem dX8_measureFrom_45 : decode cX8_measureFrom 45 = .ok (.iload 5, 2) := by decide +kernel
theorem dX8_measureFrom_47 : decode cX8_measureFrom 47 = .ok (.iload_n 3, 1) := by decide +kernel
theorem dX8_measureFrom_48 : decode cX8_measureFrom 48 = .ok (.aload_n 0, 1) := by decide +kernel
theorem dX8_measureFrom_49 : decode cX8_measureFrom 49 = .ok (.getfield 18, 3) := by decide +kernel
theorem dX8_measureFrom_52 : decode cX8_measureFrom 52 = .ok (.iload_n 3, 1) := by decide +kernel
theorem dX8_measureFrom_53 : decode cX8_measureFrom 53 = .ok (.iload 4, 2) := by decide +kernel
theorem dX8_measureFrom_55 : decode cX8_measureFrom 55 = .ok (.invokevirtual 40, 3) := by decide +kernel
theorem dX8_measureFrom_58 : decode cX8_measureFrom 58 = .ok (.invokevirtual 43, 3) := by decide +kernel
theorem dX8_measureFrom_61 : decode cX8_measureFrom 61 = .ok (.iinc 4 1, 3) := by decide +kernel
theorem dX8_measureFrom_64 : decode cX8_measureFrom 64 = .ok (.goto (-35), 3) := by decide +kernel
theorem dX8_measureFrom_67 : decode cX8_measureFrom 67 = .ok (.iinc 2 1, 3) := by decide +kernel
theorem dX8_measureFrom_70 : decode cX8_measureFrom 70 = .ok (.goto (-63), 3) := by decide +kernel
theorem dX8_measureFrom_73 : decode cX8_measureFrom 73 = .ok (.return_, 1) := by decide +kernel
theorem dX8_begin_0 : decode cX8_begin 0 = .ok (.iconst 0, 1) := by decide +kernel
theorem dX8_begin_1 : decode cX8_begin 1 = .ok (.istore_n 2, 1) := by decide +kernel
theorem dX8_begin_2 : decode cX8_begin 2 = .ok (.iload_n 2, 1) := by decide +kernel
theorem dX8_begin_3 : decode cX8_begin 3 = .ok (.sipush 576, 3) := by decide +kernel
theorem dX8_begin_6 : decode cX8_begin 6 = .ok (.if_icmp .ge 16, 3) := by decide +kernel
theorem dX8_begin_9 : decode cX8_begin 9 = .ok (.aload_n 0, 1) := by decide +kernel
theorem dX8_begin_10 : decode cX8_begin 10 = .ok (.getfield 9, 3) := by decide +kernel
theorem dX8_begin_13 : decode cX8_begin 13 = .ok (.iload_n 2, 1) := by decide +kernel
theorem dX8_begin_14 : decode cX8_begin 14 = .ok (.iconst (-1), 1) := by decide +kernel
theorem dX8_begin_15 : decode cX8_begin 15 = .ok (.iastore, 1) := by decide +kernel
theorem dX8_begin_16 : decode cX8_begin 16 = .ok (.iinc 2 1, 3) := by decide +kernel
theorem dX8_begin_19 : decode cX8_begin 19 = .ok (.goto (-17), 3) := by decide +kernel
theorem dX8_begin_22 : decode cX8_begin 22 = .ok (.aload_n 0, 1) := by decide +kernel
theorem dX8_begin_23 : decode cX8_begin 23 = .ok (.iconst 0, 1) := by decide +kernel
theorem dX8_begin_24 : decode cX8_begin 24 = .ok (.putfield 26, 3) := by decide +kernel
theorem dX8_begin_27 : decode cX8_begin 27 = .ok (.iload_n 1, 1) := by decide +kernel
theorem dX8_begin_28 : decode cX8_begin 28 = .ok (.ifCond .lt 29, 3) := by decide +kernel
theorem dX8_begin_31 : decode cX8_begin 31 = .ok (.iload_n 1, 1) := by decide +kernel
theorem dX8_begin_32 : decode cX8_begin 32 = .ok (.sipush 576, 3) := by decide +kernel
theorem dX8_begin_35 : decode cX8_begin 35 = .ok (.if_icmp .ge 22, 3) := by decide +kernel
theorem dX8_begin_38 : decode cX8_begin 38 = .ok (.aload_n 0, 1) := by decide +kernel
theorem dX8_begin_39 : decode cX8_begin 39 = .ok (.getfield 9, 3) := by decide +kernel
theorem dX8_begin_42 : decode cX8_begin 42 = .ok (.iload_n 1, 1) := by decide +kernel
theorem dX8_begin_43 : decode cX8_begin 43 = .ok (.iconst 0, 1) := by decide +kernel
theorem dX8_begin_44 : decode cX8_begin 44 = .ok (.iastore, 1) := by decide +kernel
theorem dX8_begin_45 : decode cX8_begin 45 = .ok (.aload_n 0, 1) := by decide +kernel
theorem dX8_begin_46 : decode cX8_begin 46 = .ok (.getfield 15, 3) := by decide +kernel
theorem dX8_begin_49 : decode cX8_begin 49 = .ok (.iconst 0, 1) := by decide +kernel
theorem dX8_begin_50 : decode cX8_begin 50 = .ok (.iload_n 1, 1) := by decide +kernel
theorem dX8_begin_51 : decode cX8_begin 51 = .ok (.iastore, 1) := by decide +kernel
theorem dX8_begin_52 : decode cX8_begin 52 = .ok (.aload_n 0, 1) := by decide +kernel
theorem dX8_begin_53 : decode cX8_begin 53 = .ok (.iconst 1, 1) := by decide +kernel
theorem dX8_begin_54 : decode cX8_begin 54 = .ok (.putfield 26, 3) := by decide +kernel
theorem dX8_begin_57 : decode cX8_begin 57 = .ok (.return_, 1) := by decide +kernel
theorem dX8_takeCheapest_0 : decode cX8_takeCheapest 0 = .ok (.iconst 0, 1) := by decide +kernel
theorem dX8_takeCheapest_1 : decode cX8_takeCheapest 1 = .ok (.istore_n 1, 1) := by decide +kernel
theorem dX8_takeCheapest_2 : decode cX8_takeCheapest 2 = .ok (.aload_n 0, 1) := by decide +kernel
theorem dX8_takeCheapest_3 : decode cX8_takeCheapest 3 = .ok (.aload_n 0, 1) := by decide +kernel
theorem dX8_takeCheapest_4 : decode cX8_takeCheapest 4 = .ok (.getfield 15, 3) := by decide +kernel
theorem dX8_takeCheapest_7 : decode cX8_takeCheapest 7 = .ok (.iconst 0, 1) := by decide +kernel
theorem dX8_takeCheapest_8 : decode cX8_takeCheapest 8 = .ok (.iaload, 1) := by decide +kernel
theorem dX8_takeCheapest_9 : decode cX8_takeCheapest 9 = .ok (.invokevirtual 47, 3) := by decide +kernel
theorem dX8_takeCheapest_12 : decode cX8_takeCheapest 12 = .ok (.istore_n 2, 1) := by decide +kernel
theorem dX8_takeCheapest_13 : decode cX8_takeCheapest 13 = .ok (.iconst 1, 1) := by decide +kernel
theorem dX8_takeCheapest_14 : decode cX8_takeCheapest 14 = .ok (.istore_n 3, 1) := by decide +kernel
theorem dX8_takeCheapest_15 : decode cX8_takeCheapest 15 = .ok (.iload_n 3, 1) := by decide +kernel
theorem dX8_takeCheapest_16 : decode cX8_takeCheapest 16 = .ok (.aload_n 0, 1) := by decide +kernel
theorem dX8_takeCheapest_17 : decode cX8_takeCheapest 17 = .ok (.getfield 26, 3) := by decide +kernel
theorem dX8_takeCheapest_20 : decode cX8_takeCheapest 20 = .ok (.if_icmp .ge 39, 3) := by decide +kernel
theorem dX8_takeCheapest_23 : decode cX8_takeCheapest 23 = .ok (.iload_n 3, 1) := by decide +kernel
theorem dX8_takeCheapest_24 : decode cX8_takeCheapest 24 = .ok (.sipush 576, 3) := by decide +kernel
theorem dX8_takeCheapest_27 : decode cX8_takeCheapest 27 = .ok (.if_icmp .ge 32, 3) := by decide +kernel
theorem dX8_takeCheapest_30 : decode cX8_takeCheapest 30 = .ok (.aload_n 0, 1) := by decide +kernel
theorem dX8_takeCheapest_31 : decode cX8_takeCheapest 31 = .ok (.aload_n 0, 1) := by decide +kernel
theorem dX8_takeCheapest_32 : decode cX8_takeCheapest 32 = .ok (.getfield 15, 3) := by decide +kernel
theorem dX8_takeCheapest_35 : decode cX8_takeCheapest 35 = .ok (.iload_n 3, 1) := by decide +kernel
theorem dX8_takeCheapest_36 : decode cX8_takeCheapest 36 = .ok (.iaload, 1) := by decide +kernel
theorem dX8_takeCheapest_37 : decode cX8_takeCheapest 37 = .ok (.invokevirtual 47, 3) := by decide +kernel
theorem dX8_takeCheapest_40 : decode cX8_takeCheapest 40 = .ok (.istore 4, 2) := by decide +kernel
theorem dX8_takeCheapest_42 : decode cX8_takeCheapest 42 = .ok (.iload 4, 2) := by decide +kernel
theorem dX8_takeCheapest_44 : decode cX8_takeCheapest 44 = .ok (.iload_n 2, 1) := by decide +kernel
theorem dX8_takeCheapest_45 : decode cX8_takeCheapest 45 = .ok (.if_icmp .ge 8, 3) := by decide +kernel
theorem dX8_takeCheapest_48 : decode cX8_takeCheapest 48 = .ok (.iload_n 3, 1) := by decide +kernel
theorem dX8_takeCheapest_49 : decode cX8_takeCheapest 49 = .ok (.istore_n 1, 1) := by decide +kernel
theorem dX8_takeCheapest_50 : decode cX8_takeCheapest 50 = .ok (.iload 4, 2) := by decide +kernel
theorem dX8_takeCheapest_52 : decode cX8_takeCheapest 52 = .ok (.istore_n 2, 1) := by decide +kernel
theorem dX8_takeCheapest_53 : decode cX8_takeCheapest 53 = .ok (.iinc 3 1, 3) := by decide +kernel
theorem dX8_takeCheapest_56 : decode cX8_takeCheapest 56 = .ok (.goto (-41), 3) := by decide +kernel
theorem dX8_takeCheapest_59 : decode cX8_takeCheapest 59 = .ok (.aload_n 0, 1) := by decide +kernel
theorem dX8_takeCheapest_60 : decode cX8_takeCheapest 60 = .ok (.getfield 15, 3) := by decide +kernel
theorem dX8_takeCheapest_63 : decode cX8_takeCheapest 63 = .ok (.iload_n 1, 1) := by decide +kernel
theorem dX8_takeCheapest_64 : decode cX8_takeCheapest 64 = .ok (.iaload, 1) := by decide +kernel
theorem dX8_takeCheapest_65 : decode cX8_takeCheapest 65 = .ok (.istore_n 3, 1) := by decide +kernel
theorem dX8_takeCheapest_66 : decode cX8_takeCheapest 66 = .ok (.aload_n 0, 1) := by decide +kernel
theorem dX8_takeCheapest_67 : decode cX8_takeCheapest 67 = .ok (.getfield 26, 3) := by decide +kernel
theorem dX8_takeCheapest_70 : decode cX8_takeCheapest 70 = .ok (.ifCond .le 38, 3) := by decide +kernel
theorem dX8_takeCheapest_73 : decode cX8_takeCheapest 73 = .ok (.aload_n 0, 1) := by decide +kernel
theorem dX8_takeCheapest_74 : decode cX8_takeCheapest 74 = .ok (.getfield 26, 3) := by decide +kernel
theorem dX8_takeCheapest_77 : decode cX8_takeCheapest 77 = .ok (.sipush 576, 3) := by decide +kernel
theorem dX8_takeCheapest_80 : decode cX8_takeCheapest 80 = .ok (.if_icmp .gt 28, 3) := by decide +kernel
theorem dX8_takeCheapest_83 : decode cX8_takeCheapest 83 = .ok (.aload_n 0, 1) := by decide +kernel
theorem dX8_takeCheapest_84 : decode cX8_takeCheapest 84 = .ok (.dup, 1) := by decide +kernel
theorem dX8_takeCheapest_85 : decode cX8_takeCheapest 85 = .ok (.getfield 26, 3) := by decide +kernel
theorem dX8_takeCheapest_88 : decode cX8_takeCheapest 88 = .ok (.iconst 1, 1) := by decide +kernel
theorem dX8_takeCheapest_89 : decode cX8_takeCheapest 89 = .ok (.isub, 1) := by decide +kernel
theorem dX8_takeCheapest_90 : decode cX8_takeCheapest 90 = .ok (.putfield 26, 3) := by decide +kernel
theorem dX8_takeCheapest_93 : decode cX8_takeCheapest 93 = .ok (.aload_n 0, 1) := by decide +kernel
theorem dX8_takeCheapest_94 : decode cX8_takeCheapest 94 = .ok (.getfield 15, 3) := by decide +kernel
theorem dX8_takeCheapest_97 : decode cX8_takeCheapest 97 = .ok (.iload_n 1, 1) := by decide +kernel
theorem dX8_takeCheapest_98 : decode cX8_takeCheapest 98 = .ok (.aload_n 0, 1) := by decide +kernel
theorem dX8_takeCheapest_99 : decode cX8_takeCheapest 99 = .ok (.getfield 15, 3) := by decide +kernel
theorem dX8_takeCheapest_102 : decode cX8_takeCheapest 102 = .ok (.aload_n 0, 1) := by decide +kernel
theorem dX8_takeCheapest_103 : decode cX8_takeCheapest 103 = .ok (.getfield 26, 3) := by decide +kernel
theorem dX8_takeCheapest_106 : decode cX8_takeCheapest 106 = .ok (.iaload, 1) := by decide +kernel
theorem dX8_takeCheapest_107 : decode cX8_takeCheapest 107 = .ok (.iastore, 1) := by decide +kernel
theorem dX8_takeCheapest_108 : decode cX8_takeCheapest 108 = .ok (.iload_n 3, 1) := by decide +kernel
theorem dX8_takeCheapest_109 : decode cX8_takeCheapest 109 = .ok (.ireturn, 1) := by decide +kernel
theorem dX8_reach_0 : decode cX8_reach 0 = .ok (.iload_n 3, 1) := by decide +kernel
theorem dX8_reach_1 : decode cX8_reach 1 = .ok (.iconst (-1), 1) := by decide +kernel
theorem dX8_reach_2 : decode cX8_reach 2 = .ok (.if_icmp .eq 14, 3) := by decide +kernel
theorem dX8_reach_5 : decode cX8_reach 5 = .ok (.iload_n 1, 1) := by decide +kernel
theorem dX8_reach_6 : decode cX8_reach 6 = .ok (.ifCond .lt 10, 3) := by decide +kernel
theorem dX8_reach_9 : decode cX8_reach 9 = .ok (.iload_n 1, 1) := by decide +kernel
theorem dX8_reach_10 : decode cX8_reach 10 = .ok (.sipush 576, 3) := by decide +kernel
theorem dX8_reach_13 : decode cX8_reach 13 = .ok (.if_icmp .lt 4, 3) := by decide +kernel
theorem dX8_reach_16 : decode cX8_reach 16 = .ok (.return_, 1) := by decide +kernel
theorem dX8_reach_17 : decode cX8_reach 17 = .ok (.aload_n 0, 1) := by decide +kernel
theorem dX8_reach_18 : decode cX8_reach 18 = .ok (.iload_n 2, 1) := by decide +kernel
theorem dX8_reach_19 : decode cX8_reach 19 = .ok (.invokevirtual 47, 3) := by decide +kernel
theorem dX8_reach_22 : decode cX8_reach 22 = .ok (.iload_n 3, 1) := by decide +kernel
theorem dX8_reach_23 : decode cX8_reach 23 = .ok (.iadd, 1) := by decide +kernel
theorem dX8_reach_24 : decode cX8_reach 24 = .ok (.istore 4, 2) := by decide +kernel
theorem dX8_reach_26 : decode cX8_reach 26 = .ok (.aload_n 0, 1) := by decide +kernel
theorem dX8_reach_27 : decode cX8_reach 27 = .ok (.getfield 9, 3) := by decide +kernel
theorem dX8_reach_30 : decode cX8_reach 30 = .ok (.iload_n 1, 1) := by decide +kernel
theorem dX8_reach_31 : decode cX8_reach 31 = .ok (.iaload, 1) := by decide +kernel
theorem dX8_reach_32 : decode cX8_reach 32 = .ok (.iconst (-1), 1) := by decide +kernel
theorem dX8_reach_33 : decode cX8_reach 33 = .ok (.if_icmp .ne 51, 3) := by decide +kernel
theorem dX8_reach_36 : decode cX8_reach 36 = .ok (.aload_n 0, 1) := by decide +kernel
theorem dX8_reach_37 : decode cX8_reach 37 = .ok (.getfield 26, 3) := by decide +kernel
theorem dX8_reach_40 : decode cX8_reach 40 = .ok (.ifCond .lt 44, 3) := by decide +kernel
theorem dX8_reach_43 : decode cX8_reach 43 = .ok (.aload_n 0, 1) := by decide +kernel
theorem dX8_reach_44 : decode cX8_reach 44 = .ok (.getfield 26, 3) := by decide +kernel
theorem dX8_reach_47 : decode cX8_reach 47 = .ok (.sipush 576, 3) := by decide +kernel
theorem dX8_reach_50 : decode cX8_reach 50 = .ok (.if_icmp .ge 34, 3) := by decide +kernel
theorem dX8_reach_53 : decode cX8_reach 53 = .ok (.aload_n 0, 1) := by decide +kernel
theorem dX8_reach_54 : decode cX8_reach 54 = .ok (.getfield 9, 3) := by decide +kernel
theorem dX8_reach_57 : decode cX8_reach 57 = .ok (.iload_n 1, 1) := by decide +kernel
theorem dX8_reach_58 : decode cX8_reach 58 = .ok (.iload 4, 2) := by decide +kernel
theorem dX8_reach_60 : decode cX8_reach 60 = .ok (.iastore, 1) := by decide +kernel
theorem dX8_reach_61 : decode cX8_reach 61 = .ok (.aload_n 0, 1) := by decide +kernel
theorem dX8_reach_62 : decode cX8_reach 62 = .ok (.getfield 15, 3) := by decide +kernel
theorem dX8_reach_65 : decode cX8_reach 65 = .ok (.aload_n 0, 1) := by decide +kernel
theorem dX8_reach_66 : decode cX8_reach 66 = .ok (.getfield 26, 3) := by decide +kernel
theorem dX8_reach_69 : decode cX8_reach 69 = .ok (.iload_n 1, 1) := by decide +kernel
theorem dX8_reach_70 : decode cX8_reach 70 = .ok (.iastore, 1) := by decide +kernel
theorem dX8_reach_71 : decode cX8_reach 71 = .ok (.aload_n 0, 1) := by decide +kernel
theorem dX8_reach_72 : decode cX8_reach 72 = .ok (.dup, 1) := by decide +kernel
theorem dX8_reach_73 : decode cX8_reach 73 = .ok (.getfield 26, 3) := by decide +kernel
theorem dX8_reach_76 : decode cX8_reach 76 = .ok (.iconst 1, 1) := by decide +kernel
theorem dX8_reach_77 : decode cX8_reach 77 = .ok (.iadd, 1) := by decide +kernel
theorem dX8_reach_78 : decode cX8_reach 78 = .ok (.putfield 26, 3) := by decide +kernel
theorem dX8_reach_81 : decode cX8_reach 81 = .ok (.goto 22, 3) := by decide +kernel
theorem dX8_reach_84 : decode cX8_reach 84 = .ok (.iload 4, 2) := by decide +kernel
theorem dX8_reach_86 : decode cX8_reach 86 = .ok (.aload_n 0, 1) := by decide +kernel
theorem dX8_reach_87 : decode cX8_reach 87 = .ok (.getfield 9, 3) := by decide +kernel
theorem dX8_reach_90 : decode cX8_reach 90 = .ok (.iload_n 1, 1) := by decide +kernel
theorem dX8_reach_91 : decode cX8_reach 91 = .ok (.iaload, 1) := by decide +kernel
theorem dX8_reach_92 : decode cX8_reach 92 = .ok (.if_icmp .ge 11, 3) := by decide +kernel
theorem dX8_reach_95 : decode cX8_reach 95 = .ok (.aload_n 0, 1) := by decide +kernel
theorem dX8_reach_96 : decode cX8_reach 96 = .ok (.getfield 9, 3) := by decide +kernel
theorem dX8_reach_99 : decode cX8_reach 99 = .ok (.iload_n 1, 1) := by decide +kernel
theorem dX8_reach_100 : decode cX8_reach 100 = .ok (.iload 4, 2) := by decide +kernel
theorem dX8_reach_102 : decode cX8_reach 102 = .ok (.iastore, 1) := by decide +kernel
theorem dX8_reach_103 : decode cX8_reach 103 = .ok (.return_, 1) := by decide +kernel
theorem dX8_costOf_0 : decode cX8_costOf 0 = .ok (.iload_n 1, 1) := by decide +kernel
theorem dX8_costOf_1 : decode cX8_costOf 1 = .ok (.ifCond .lt 10, 3) := by decide +kernel
theorem dX8_costOf_4 : decode cX8_costOf 4 = .ok (.iload_n 1, 1) := by decide +kernel
theorem dX8_costOf_5 : decode cX8_costOf 5 = .ok (.sipush 576, 3) := by decide +kernel
theorem dX8_costOf_8 : decode cX8_costOf 8 = .ok (.if_icmp .lt 7, 3) := by decide +kernel
theorem dX8_costOf_11 : decode cX8_costOf 11 = .ok (.iconst (-1), 1) := by decide +kernel
theorem dX8_costOf_12 : decode cX8_costOf 12 = .ok (.goto 9, 3) := by decide +kernel
theorem dX8_costOf_15 : decode cX8_costOf 15 = .ok (.aload_n 0, 1) := by decide +kernel
theorem dX8_costOf_16 : decode cX8_costOf 16 = .ok (.getfield 9, 3) := by decide +kernel
theorem dX8_costOf_19 : decode cX8_costOf 19 = .ok (.iload_n 1, 1) := by decide +kernel
theorem dX8_costOf_20 : decode cX8_costOf 20 = .ok (.iaload, 1) := by decide +kernel
theorem dX8_costOf_21 : decode cX8_costOf 21 = .ok (.ireturn, 1) := by decide +kernel
theorem dX8_directionFrom_0 : decode cX8_directionFrom 0 = .ok (.aload_n 0, 1) := by decide +kernel
theorem dX8_directionFrom_1 : decode cX8_directionFrom 1 = .ok (.iload_n 1, 1) := by decide +kernel
theorem dX8_directionFrom_2 : decode cX8_directionFrom 2 = .ok (.invokevirtual 47, 3) := by decide +kernel
theorem dX8_directionFrom_5 : decode cX8_directionFrom 5 = .ok (.ifCond .gt 5, 3) := by decide +kernel
theorem dX8_directionFrom_8 : decode cX8_directionFrom 8 = .ok (.iconst (-1), 1) := by decide +kernel
theorem dX8_directionFrom_9 : decode cX8_directionFrom 9 = .ok (.ireturn, 1) := by decide +kernel
theorem dX8_directionFrom_10 : decode cX8_directionFrom 10 = .ok (.iconst 0, 1) := by decide +kernel
theorem dX8_directionFrom_11 : decode cX8_directionFrom 11 = .ok (.istore_n 2, 1) := by decide +kernel
theorem dX8_directionFrom_12 : decode cX8_directionFrom 12 = .ok (.iload_n 2, 1) := by decide +kernel
theorem dX8_directionFrom_13 : decode cX8_directionFrom 13 = .ok (.bipush 8, 2) := by decide +kernel
theorem dX8_directionFrom_15 : decode cX8_directionFrom 15 = .ok (.if_icmp .ge 56, 3) := by decide +kernel
theorem dX8_directionFrom_18 : decode cX8_directionFrom 18 = .ok (.aload_n 0, 1) := by decide +kernel
theorem dX8_directionFrom_19 : decode cX8_directionFrom 19 = .ok (.getfield 18, 3) := by decide +kernel
theorem dX8_directionFrom_22 : decode cX8_directionFrom 22 = .ok (.iload_n 1, 1) := by decide +kernel
theorem dX8_directionFrom_23 : decode cX8_directionFrom 23 = .ok (.iload_n 2, 1) := by decide +kernel
theorem dX8_directionFrom_24 : decode cX8_directionFrom 24 = .ok (.invokevirtual 40, 3) := by decide +kernel
theorem dX8_directionFrom_27 : decode cX8_directionFrom 27 = .ok (.istore_n 3, 1) := by decide +kernel
theorem dX8_directionFrom_28 : decode cX8_directionFrom 28 = .ok (.aload_n 0, 1) := by decide +kernel
theorem dX8_directionFrom_29 : decode cX8_directionFrom 29 = .ok (.iload_n 1, 1) := by decide +kernel
theorem dX8_directionFrom_30 : decode cX8_directionFrom 30 = .ok (.iload_n 2, 1) := by decide +kernel
theorem dX8_directionFrom_31 : decode cX8_directionFrom 31 = .ok (.invokestatic 34, 3) := by decide +kernel
theorem dX8_directionFrom_34 : decode cX8_directionFrom 34 = .ok (.invokevirtual 47, 3) := by decide +kernel
theorem dX8_directionFrom_37 : decode cX8_directionFrom 37 = .ok (.istore 4, 2) := by decide +kernel
theorem dX8_directionFrom_39 : decode cX8_directionFrom 39 = .ok (.iload_n 3, 1) := by decide +kernel
theorem dX8_directionFrom_40 : decode cX8_directionFrom 40 = .ok (.iconst (-1), 1) := by decide +kernel
theorem dX8_directionFrom_41 : decode cX8_directionFrom 41 = .ok (.if_icmp .eq 24, 3) := by decide +kernel
theorem dX8_directionFrom_44 : decode cX8_directionFrom 44 = .ok (.iload 4, 2) := by decide +kernel
theorem dX8_directionFrom_46 : decode cX8_directionFrom 46 = .ok (.iconst (-1), 1) := by decide +kernel
theorem dX8_directionFrom_47 : decode cX8_directionFrom 47 = .ok (.if_icmp .eq 18, 3) := by decide +kernel
theorem dX8_directionFrom_50 : decode cX8_directionFrom 50 = .ok (.iload_n 3, 1) := by decide +kernel
theorem dX8_directionFrom_51 : decode cX8_directionFrom 51 = .ok (.iload 4, 2) := by decide +kernel
theorem dX8_directionFrom_53 : decode cX8_directionFrom 53 = .ok (.iadd, 1) := by decide +kernel
theorem dX8_directionFrom_54 : decode cX8_directionFrom 54 = .ok (.aload_n 0, 1) := by decide +kernel
theorem dX8_directionFrom_55 : decode cX8_directionFrom 55 = .ok (.getfield 9, 3) := by decide +kernel
theorem dX8_directionFrom_58 : decode cX8_directionFrom 58 = .ok (.iload_n 1, 1) := by decide +kernel
theorem dX8_directionFrom_59 : decode cX8_directionFrom 59 = .ok (.iaload, 1) := by decide +kernel
theorem dX8_directionFrom_60 : decode cX8_directionFrom 60 = .ok (.if_icmp .ne 5, 3) := by decide +kernel
theorem dX8_directionFrom_63 : decode cX8_directionFrom 63 = .ok (.iload_n 2, 1) := by decide +kernel
theorem dX8_directionFrom_64 : decode cX8_directionFrom 64 = .ok (.ireturn, 1) := by decide +kernel
theorem dX8_directionFrom_65 : decode cX8_directionFrom 65 = .ok (.iinc 2 1, 3) := by decide +kernel
theorem dX8_directionFrom_68 : decode cX8_directionFrom 68 = .ok (.goto (-56), 3) := by decide +kernel
theorem dX8_directionFrom_71 : decode cX8_directionFrom 71 = .ok (.iconst (-1), 1) := by decide +kernel
theorem dX8_directionFrom_72 : decode cX8_directionFrom 72 = .ok (.ireturn, 1) := by decide +kernel
theorem dX8_sumFrom_0 : decode cX8_sumFrom 0 = .ok (.aload_n 0, 1) := by decide +kernel
theorem dX8_sumFrom_1 : decode cX8_sumFrom 1 = .ok (.iload_n 1, 1) := by decide +kernel
theorem dX8_sumFrom_2 : decode cX8_sumFrom 2 = .ok (.invokevirtual 47, 3) := by decide +kernel
theorem dX8_sumFrom_5 : decode cX8_sumFrom 5 = .ok (.iconst (-1), 1) := by decide +kernel
theorem dX8_sumFrom_6 : decode cX8_sumFrom 6 = .ok (.if_icmp .ne 5, 3) := by decide +kernel
theorem dX8_sumFrom_9 : decode cX8_sumFrom 9 = .ok (.iconst (-1), 1) := by decide +kernel
theorem dX8_sumFrom_10 : decode cX8_sumFrom 10 = .ok (.ireturn, 1) := by decide +kernel
theorem dX8_sumFrom_11 : decode cX8_sumFrom 11 = .ok (.iconst 0, 1) := by decide +kernel
theorem dX8_sumFrom_12 : decode cX8_sumFrom 12 = .ok (.istore_n 3, 1) := by decide +kernel
theorem dX8_sumFrom_13 : decode cX8_sumFrom 13 = .ok (.iload_n 1, 1) := by decide +kernel
theorem dX8_sumFrom_14 : decode cX8_sumFrom 14 = .ok (.istore 4, 2) := by decide +kernel
theorem dX8_sumFrom_16 : decode cX8_sumFrom 16 = .ok (.aload_n 0, 1) := by decide +kernel
theorem dX8_sumFrom_17 : decode cX8_sumFrom 17 = .ok (.iload 4, 2) := by decide +kernel
theorem dX8_sumFrom_19 : decode cX8_sumFrom 19 = .ok (.invokevirtual 51, 3) := by decide +kernel
theorem dX8_sumFrom_22 : decode cX8_sumFrom 22 = .ok (.istore 5, 2) := by decide +kernel
theorem dX8_sumFrom_24 : decode cX8_sumFrom 24 = .ok (.iconst 0, 1) := by decide +kernel
theorem dX8_sumFrom_25 : decode cX8_sumFrom 25 = .ok (.istore 6, 2) := by decide +kernel
theorem dX8_sumFrom_27 : decode cX8_sumFrom 27 = .ok (.iload 6, 2) := by decide +kernel
theorem dX8_sumFrom_29 : decode cX8_sumFrom 29 = .ok (.sipush 576, 3) := by decide +kernel
theorem dX8_sumFrom_32 : decode cX8_sumFrom 32 = .ok (.if_icmp .ge 54, 3) := by decide +kernel
theorem dX8_sumFrom_35 : decode cX8_sumFrom 35 = .ok (.iload 5, 2) := by decide +kernel
theorem dX8_sumFrom_37 : decode cX8_sumFrom 37 = .ok (.iconst (-1), 1) := by decide +kernel
theorem dX8_sumFrom_38 : decode cX8_sumFrom 38 = .ok (.if_icmp .eq 48, 3) := by decide +kernel
theorem dX8_sumFrom_41 : decode cX8_sumFrom 41 = .ok (.iload_n 3, 1) := by decide +kernel
theorem dX8_sumFrom_42 : decode cX8_sumFrom 42 = .ok (.iload_n 2, 1) := by decide +kernel
theorem dX8_sumFrom_43 : decode cX8_sumFrom 43 = .ok (.ifCond .eq 17, 3) := by decide +kernel
theorem dX8_sumFrom_46 : decode cX8_sumFrom 46 = .ok (.aload_n 0, 1) := by decide +kernel
theorem dX8_sumFrom_47 : decode cX8_sumFrom 47 = .ok (.getfield 18, 3) := by decide +kernel
theorem dX8_sumFrom_50 : decode cX8_sumFrom 50 = .ok (.iload 4, 2) := by decide +kernel
theorem dX8_sumFrom_52 : decode cX8_sumFrom 52 = .ok (.iload 5, 2) := by decide +kernel
theorem dX8_sumFrom_54 : decode cX8_sumFrom 54 = .ok (.invokevirtual 54, 3) := by decide +kernel
theorem dX8_sumFrom_57 : decode cX8_sumFrom 57 = .ok (.goto 4, 3) := by decide +kernel
theorem dX8_sumFrom_60 : decode cX8_sumFrom 60 = .ok (.iconst 1, 1) := by decide +kernel
theorem dX8_sumFrom_61 : decode cX8_sumFrom 61 = .ok (.iadd, 1) := by decide +kernel
theorem dX8_sumFrom_62 : decode cX8_sumFrom 62 = .ok (.istore_n 3, 1) := by decide +kernel
theorem dX8_sumFrom_63 : decode cX8_sumFrom 63 = .ok (.iload 4, 2) := by decide +kernel
theorem dX8_sumFrom_65 : decode cX8_sumFrom 65 = .ok (.iload 5, 2) := by decide +kernel
theorem dX8_sumFrom_67 : decode cX8_sumFrom 67 = .ok (.invokestatic 34, 3) := by decide +kernel
theorem dX8_sumFrom_70 : decode cX8_sumFrom 70 = .ok (.istore 4, 2) := by decide +kernel
theorem dX8_sumFrom_72 : decode cX8_sumFrom 72 = .ok (.aload_n 0, 1) := by decide +kernel
theorem dX8_sumFrom_73 : decode cX8_sumFrom 73 = .ok (.iload 4, 2) := by decide +kernel
theorem dX8_sumFrom_75 : decode cX8_sumFrom 75 = .ok (.invokevirtual 51, 3) := by decide +kernel
theorem dX8_sumFrom_78 : decode cX8_sumFrom 78 = .ok (.istore 5, 2) := by decide +kernel
theorem dX8_sumFrom_80 : decode cX8_sumFrom 80 = .ok (.iinc 6 1, 3) := by decide +kernel
theorem dX8_sumFrom_83 : decode cX8_sumFrom 83 = .ok (.goto (-56), 3) := by decide +kernel
theorem dX8_sumFrom_86 : decode cX8_sumFrom 86 = .ok (.iload_n 3, 1) := by decide +kernel
theorem dX8_sumFrom_87 : decode cX8_sumFrom 87 = .ok (.ireturn, 1) := by decide +kernel
theorem dX9_init_0 : decode cX9_init 0 = .ok (.aload_n 0, 1) := by decide +kernel
theorem dX9_init_1 : decode cX9_init 1 = .ok (.invokespecial 1, 3) := by decide +kernel
theorem dX9_init_4 : decode cX9_init 4 = .ok (.aload_n 0, 1) := by decide +kernel
theorem dX9_init_5 : decode cX9_init 5 = .ok (.new 7, 3) := by decide +kernel
theorem dX9_init_8 : decode cX9_init 8 = .ok (.dup, 1) := by decide +kernel
theorem dX9_init_9 : decode cX9_init 9 = .ok (.invokespecial 9, 3) := by decide +kernel
theorem dX9_init_12 : decode cX9_init 12 = .ok (.putfield 10, 3) := by decide +kernel
theorem dX9_init_15 : decode cX9_init 15 = .ok (.aload_n 0, 1) := by decide +kernel
theorem dX9_init_16 : decode cX9_init 16 = .ok (.new 16, 3) := by decide +kernel
theorem dX9_init_19 : decode cX9_init 19 = .ok (.dup, 1) := by decide +kernel
theorem dX9_init_20 : decode cX9_init 20 = .ok (.aload_n 0, 1) := by decide +kernel
theorem dX9_init_21 : decode cX9_init 21 = .ok (.getfield 10, 3) := by decide +kernel
theorem dX9_init_24 : decode cX9_init 24 = .ok (.invokespecial 18, 3) := by decide +kernel
theorem dX9_init_27 : decode cX9_init 27 = .ok (.putfield 21, 3) := by decide +kernel
theorem dX9_init_30 : decode cX9_init 30 = .ok (.aload_n 0, 1) := by decide +kernel
theorem dX9_init_31 : decode cX9_init 31 = .ok (.new 25, 3) := by decide +kernel
theorem dX9_init_34 : decode cX9_init 34 = .ok (.dup, 1) := by decide +kernel
theorem dX9_init_35 : decode cX9_init 35 = .ok (.invokespecial 27, 3) := by decide +kernel
theorem dX9_init_38 : decode cX9_init 38 = .ok (.putfield 28, 3) := by decide +kernel
theorem dX9_init_41 : decode cX9_init 41 = .ok (.aload_n 0, 1) := by decide +kernel
theorem dX9_init_42 : decode cX9_init 42 = .ok (.new 32, 3) := by decide +kernel
theorem dX9_init_45 : decode cX9_init 45 = .ok (.dup, 1) := by decide +kernel
theorem dX9_init_46 : decode cX9_init 46 = .ok (.invokespecial 34, 3) := by decide +kernel
theorem dX9_init_49 : decode cX9_init 49 = .ok (.putfield 35, 3) := by decide +kernel
theorem dX9_init_52 : decode cX9_init 52 = .ok (.aload_n 0, 1) := by decide +kernel
theorem dX9_init_53 : decode cX9_init 53 = .ok (.new 39, 3) := by decide +kernel
theorem dX9_init_56 : decode cX9_init 56 = .ok (.dup, 1) := by decide +kernel
theorem dX9_init_57 : decode cX9_init 57 = .ok (.aload_n 0, 1) := by decide +kernel
theorem dX9_init_58 : decode cX9_init 58 = .ok (.getfield 10, 3) := by decide +kernel
theorem dX9_init_61 : decode cX9_init 61 = .ok (.aload_n 0, 1) := by decide +kernel
theorem dX9_init_62 : decode cX9_init 62 = .ok (.getfield 21, 3) := by decide +kernel
theorem dX9_init_65 : decode cX9_init 65 = .ok (.aload_n 0, 1) := by decide +kernel
theorem dX9_init_66 : decode cX9_init 66 = .ok (.getfield 28, 3) := by decide +kernel
theorem dX9_init_69 : decode cX9_init 69 = .ok (.aload_n 0, 1) := by decide +kernel
theorem dX9_init_70 : decode cX9_init 70 = .ok (.getfield 35, 3) := by decide +kernel
theorem dX9_init_73 : decode cX9_init 73 = .ok (.invokespecial 41, 3) := by decide +kernel
theorem dX9_init_76 : decode cX9_init 76 = .ok (.putfield 44, 3) := by decide +kernel
theorem dX9_init_79 : decode cX9_init 79 = .ok (.aload_n 0, 1) := by decide +kernel
theorem dX9_init_80 : decode cX9_init 80 = .ok (.new 48, 3) := by decide +kernel
theorem dX9_init_83 : decode cX9_init 83 = .ok (.dup, 1) := by decide +kernel
theorem dX9_init_84 : decode cX9_init 84 = .ok (.aload_n 0, 1) := by decide +kernel
theorem dX9_init_85 : decode cX9_init 85 = .ok (.getfield 10, 3) := by decide +kernel
theorem dX9_init_88 : decode cX9_init 88 = .ok (.aload_n 0, 1) := by decide +kernel
theorem dX9_init_89 : decode cX9_init 89 = .ok (.getfield 21, 3) := by decide +kernel
theorem dX9_init_92 : decode cX9_init 92 = .ok (.aload_n 0, 1) := by decide +kernel
theorem dX9_init_93 : decode cX9_init 93 = .ok (.getfield 28, 3) := by decide +kernel
theorem dX9_init_96 : decode cX9_init 96 = .ok (.aload_n 0, 1) := by decide +kernel
theorem dX9_init_97 : decode cX9_init 97 = .ok (.getfield 44, 3) := by decide +kernel
theorem dX9_init_100 : decode cX9_init 100 = .ok (.invokespecial 50, 3) := by decide +kernel
theorem dX9_init_103 : decode cX9_init 103 = .ok (.putfield 53, 3) := by decide +kernel
theorem dX9_init_106 : decode cX9_init 106 = .ok (.aload_n 0, 1) := by decide +kernel
theorem dX9_init_107 : decode cX9_init 107 = .ok (.new 57, 3) := by decide +kernel
theorem dX9_init_110 : decode cX9_init 110 = .ok (.dup, 1) := by decide +kernel
theorem dX9_init_111 : decode cX9_init 111 = .ok (.invokespecial 59, 3) := by decide +kernel
theorem dX9_init_114 : decode cX9_init 114 = .ok (.putfield 60, 3) := by decide +kernel
theorem dX9_init_117 : decode cX9_init 117 = .ok (.aload_n 0, 1) := by decide +kernel
theorem dX9_init_118 : decode cX9_init 118 = .ok (.new 57, 3) := by decide +kernel
theorem dX9_init_121 : decode cX9_init 121 = .ok (.dup, 1) := by decide +kernel
theorem dX9_init_122 : decode cX9_init 122 = .ok (.invokespecial 59, 3) := by decide +kernel
theorem dX9_init_125 : decode cX9_init 125 = .ok (.putfield 64, 3) := by decide +kernel
theorem dX9_init_128 : decode cX9_init 128 = .ok (.aload_n 0, 1) := by decide +kernel
theorem dX9_init_129 : decode cX9_init 129 = .ok (.new 67, 3) := by decide +kernel
theorem dX9_init_132 : decode cX9_init 132 = .ok (.dup, 1) := by decide +kernel
theorem dX9_init_133 : decode cX9_init 133 = .ok (.invokespecial 69, 3) := by decide +kernel
theorem dX9_init_136 : decode cX9_init 136 = .ok (.putfield 70, 3) := by decide +kernel
theorem dX9_init_139 : decode cX9_init 139 = .ok (.aload_n 0, 1) := by decide +kernel
theorem dX9_init_140 : decode cX9_init 140 = .ok (.bipush 8, 2) := by decide +kernel
theorem dX9_init_142 : decode cX9_init 142 = .ok (.anewarray 74, 3) := by decide +kernel
theorem dX9_init_145 : decode cX9_init 145 = .ok (.putfield 76, 3) := by decide +kernel
theorem dX9_init_148 : decode cX9_init 148 = .ok (.return_, 1) := by decide +kernel
theorem dX9_raise_0 : decode cX9_raise 0 = .ok (.iload_n 1, 1) := by decide +kernel
theorem dX9_raise_1 : decode cX9_raise 1 = .ok (.iload_n 2, 1) := by decide +kernel
theorem dX9_raise_2 : decode cX9_raise 2 = .ok (.iload_n 3, 1) := by decide +kernel
theorem dX9_raise_3 : decode cX9_raise 3 = .ok (.iload 4, 2) := by decide +kernel
theorem dX9_raise_5 : decode cX9_raise 5 = .ok (.invokestatic 80, 3) := by decide +kernel
theorem dX9_raise_8 : decode cX9_raise 8 = .ok (.ifCond .eq 20, 3) := by decide +kernel
theorem dX9_raise_11 : decode cX9_raise 11 = .ok (.aload_n 0, 1) := by decide +kernel
theorem dX9_raise_12 : decode cX9_raise 12 = .ok (.getfield 10, 3) := by decide +kernel
theorem dX9_raise_15 : decode cX9_raise 15 = .ok (.iload_n 1, 1) := by decide +kernel
theorem dX9_raise_16 : decode cX9_raise 16 = .ok (.iload_n 2, 1) := by decide +kernel
theorem dX9_raise_17 : decode cX9_raise 17 = .ok (.iload_n 3, 1) := by decide +kernel
theorem dX9_raise_18 : decode cX9_raise 18 = .ok (.iload 4, 2) := by decide +kernel
theorem dX9_raise_20 : decode cX9_raise 20 = .ok (.iload 5, 2) := by decide +kernel
theorem dX9_raise_22 : decode cX9_raise 22 = .ok (.invokevirtual 84, 3) := by decide +kernel
theorem dX9_raise_25 : decode cX9_raise 25 = .ok (.ifCond .ne 13, 3) := by decide +kernel
theorem dX9_raise_28 : decode cX9_raise 28 = .ok (.new 88, 3) := by decide +kernel
theorem dX9_raise_31 : decode cX9_raise 31 = .ok (.dup, 1) := by decide +kernel
theorem dX9_raise_32 : decode cX9_raise 32 = .ok (.ldc 90, 2) := by decide +kernel
theorem dX9_raise_34 : decode cX9_raise 34 = .ok (.invokespecial 92, 3) := by decide +kernel
theorem dX9_raise_37 : decode cX9_raise 37 = .ok (.athrow, 1) := by decide +kernel
theorem dX9_raise_38 : decode cX9_raise 38 = .ok (.aload_n 0, 1) := by decide +kernel
theorem dX9_raise_39 : decode cX9_raise 39 = .ok (.getfield 10, 3) := by decide +kernel
theorem dX9_raise_42 : decode cX9_raise 42 = .ok (.iload_n 1, 1) := by decide +kernel
theorem dX9_raise_43 : decode cX9_raise 43 = .ok (.iload_n 2, 1) := by decide +kernel
theorem dX9_raise_44 : decode cX9_raise 44 = .ok (.iload_n 3, 1) := by decide +kernel
theorem dX9_raise_45 : decode cX9_raise 45 = .ok (.iload 4, 2) := by decide +kernel
theorem dX9_raise_47 : decode cX9_raise 47 = .ok (.iload 5, 2) := by decide +kernel
theorem dX9_raise_49 : decode cX9_raise 49 = .ok (.invokevirtual 95, 3) := by decide +kernel
theorem dX9_raise_52 : decode cX9_raise 52 = .ok (.ireturn, 1) := by decide +kernel
theorem dX9_pave_0 : decode cX9_pave 0 = .ok (.iload_n 1, 1) := by decide +kernel
theorem dX9_pave_1 : decode cX9_pave 1 = .ok (.iload_n 2, 1) := by decide +kernel
theorem dX9_pave_2 : decode cX9_pave 2 = .ok (.iload_n 3, 1) := by decide +kernel
theorem dX9_pave_3 : decode cX9_pave 3 = .ok (.iload 4, 2) := by decide +kernel
theorem dX9_pave_5 : decode cX9_pave 5 = .ok (.invokestatic 80, 3) := by decide +kernel
theorem dX9_pave_8 : decode cX9_pave 8 = .ok (.ifCond .eq 14, 3) := by decide +kernel
theorem dX9_pave_11 : decode cX9_pave 11 = .ok (.iload 5, 2) := by decide +kernel
theorem dX9_pave_13 : decode cX9_pave 13 = .ok (.ifCond .lt 9, 3) := by decide +kernel
theorem dX9_pave_16 : decode cX9_pave 16 = .ok (.iload 5, 2) := by decide +kernel
theorem dX9_pave_18 : decode cX9_pave 18 = .ok (.iconst 3, 1) := by decide +kernel
theorem dX9_pave_19 : decode cX9_pave 19 = .ok (.if_icmp .le 13, 3) := by decide +kernel
theorem dX9_pave_22 : decode cX9_pave 22 = .ok (.new 88, 3) := by decide +kernel
theorem dX9_pave_25 : decode cX9_pave 25 = .ok (.dup, 1) := by decide +kernel
theorem dX9_pave_26 : decode cX9_pave 26 = .ok (.ldc 99, 2) := by decide +kernel
theorem dX9_pave_28 : decode cX9_pave 28 = .ok (.invokespecial 92, 3) := by decide +kernel
theorem dX9_pave_31 : decode cX9_pave 31 = .ok (.athrow, 1) := by decide +kernel
theorem dX9_pave_32 : decode cX9_pave 32 = .ok (.aload_n 0, 1) := by decide +kernel
theorem dX9_pave_33 : decode cX9_pave 33 = .ok (.getfield 10, 3) := by decide +kernel
theorem dX9_pave_36 : decode cX9_pave 36 = .ok (.iload_n 1, 1) := by decide +kernel
theorem dX9_pave_37 : decode cX9_pave 37 = .ok (.iload_n 2, 1) := by decide +kernel
theorem dX9_pave_38 : decode cX9_pave 38 = .ok (.iload_n 3, 1) := by decide +kernel
theorem dX9_pave_39 : decode cX9_pave 39 = .ok (.iload 4, 2) := by decide +kernel
theorem dX9_pave_41 : decode cX9_pave 41 = .ok (.iload 5, 2) := by decide +kernel
theorem dX9_pave_43 : decode cX9_pave 43 = .ok (.iload 6, 2) := by decide +kernel
theorem dX9_pave_45 : decode cX9_pave 45 = .ok (.invokevirtual 101, 3) := by decide +kernel
theorem dX9_pave_48 : decode cX9_pave 48 = .ok (.iload_n 2, 1) := by decide +kernel
theorem dX9_pave_49 : decode cX9_pave 49 = .ok (.iload_n 1, 1) := by decide +kernel
theorem dX9_pave_50 : decode cX9_pave 50 = .ok (.isub, 1) := by decide +kernel
theorem dX9_pave_51 : decode cX9_pave 51 = .ok (.iconst 1, 1) := by decide +kernel
theorem dX9_pave_52 : decode cX9_pave 52 = .ok (.iadd, 1) := by decide +kernel
theorem dX9_pave_53 : decode cX9_pave 53 = .ok (.iload 4, 2) := by decide +kernel
theorem dX9_pave_55 : decode cX9_pave 55 = .ok (.iload_n 3, 1) := by decide +kernel
theorem dX9_pave_56 : decode cX9_pave 56 = .ok (.isub, 1) := by decide +kernel
theorem dX9_pave_57 : decode cX9_pave 57 = .ok (.iconst 1, 1) := by decide +kernel
theorem dX9_pave_58 : decode cX9_pave 58 = .ok (.iadd, 1) := by decide +kernel
theorem dX9_pave_59 : decode cX9_pave 59 = .ok (.imul, 1) := by decide +kernel
theorem dX9_pave_60 : decode cX9_pave 60 = .ok (.ireturn, 1) := by decide +kernel
theorem dX9_setSlope_0 : decode cX9_setSlope 0 = .ok (.iload_n 1, 1) := by decide +kernel
theorem dX9_setSlope_1 : decode cX9_setSlope 1 = .ok (.ifCond .lt 9, 3) := by decide +kernel
theorem dX9_setSlope_4 : decode cX9_setSlope 4 = .ok (.iload_n 1, 1) := by decide +kernel
theorem dX9_setSlope_5 : decode cX9_setSlope 5 = .ok (.bipush 99, 2) := by decide +kernel
theorem dX9_setSlope_7 : decode cX9_setSlope 7 = .ok (.if_icmp .le 13, 3) := by decide +kernel
theorem dX9_setSlope_10 : decode cX9_setSlope 10 = .ok (.new 88, 3) := by decide +kernel
theorem dX9_setSlope_13 : decode cX9_setSlope 13 = .ok (.dup, 1) := by decide +kernel
theorem dX9_setSlope_14 : decode cX9_setSlope 14 = .ok (.ldc 124, 2) := by decide +kernel
theorem dX9_setSlope_16 : decode cX9_setSlope 16 = .ok (.invokespecial 92, 3) := by decide +kernel
theorem dX9_setSlope_19 : decode cX9_setSlope 19 = .ok (.athrow, 1) := by decide +kernel
theorem dX9_setSlope_20 : decode cX9_setSlope 20 = .ok (.aload_n 0, 1) := by decide +kernel
theorem dX9_setSlope_21 : decode cX9_setSlope 21 = .ok (.getfield 10, 3) := by decide +kernel
theorem dX9_setSlope_24 : decode cX9_setSlope 24 = .ok (.getfield 126, 3) := by decide +kernel
theorem dX9_setSlope_27 : decode cX9_setSlope 27 = .ok (.istore_n 2, 1) := by decide +kernel
theorem dX9_setSlope_28 : decode cX9_setSlope 28 = .ok (.aload_n 0, 1) := by decide +kernel
theorem dX9_setSlope_29 : decode cX9_setSlope 29 = .ok (.getfield 10, 3) := by decide +kernel
theorem dX9_setSlope_32 : decode cX9_setSlope 32 = .ok (.iload_n 1, 1) := by decide +kernel
theorem dX9_setSlope_33 : decode cX9_setSlope 33 = .ok (.invokevirtual 130, 3) := by decide +kernel
theorem dX9_setSlope_36 : decode cX9_setSlope 36 = .ok (.iload_n 2, 1) := by decide +kernel
theorem dX9_setSlope_37 : decode cX9_setSlope 37 = .ok (.ireturn, 1) := by decide +kernel
theorem dX9_way_0 : decode cX9_way 0 = .ok (.iload_n 1, 1) := by decide +kernel
theorem dX9_way_1 : decode cX9_way 1 = .ok (.iload_n 2, 1) := by decide +kernel
theorem dX9_way_2 : decode cX9_way 2 = .ok (.invokestatic 105, 3) := by decide +kernel
theorem dX9_way_5 : decode cX9_way 5 = .ok (.ifCond .eq 23, 3) := by decide +kernel
theorem dX9_way_8 : decode cX9_way 8 = .ok (.iload_n 3, 1) := by decide +kernel
theorem dX9_way_9 : decode cX9_way 9 = .ok (.iload 4, 2) := by decide +kernel
theorem dX9_way_11 : decode cX9_way 11 = .ok (.invokestatic 105, 3) := by decide +kernel
theorem dX9_way_14 : decode cX9_way 14 = .ok (.ifCond .eq 14, 3) := by decide +kernel
theorem dX9_way_17 : decode cX9_way 17 = .ok (.iload 5, 2) := by decide +kernel
theorem dX9_way_19 : decode cX9_way 19 = .ok (.ifCond .lt 9, 3) := by decide +kernel
theorem dX9_way_22 : decode cX9_way 22 = .ok (.iload 5, 2) := by decide +kernel
theorem dX9_way_24 : decode cX9_way 24 = .ok (.iconst 3, 1) := by decide +kernel
theorem dX9_way_25 : decode cX9_way 25 = .ok (.if_icmp .le 13, 3) := by decide +kernel
theorem dX9_way_28 : decode cX9_way 28 = .ok (.new 109, 3) := by decide +kernel
theorem dX9_way_31 : decode cX9_way 31 = .ok (.dup, 1) := by decide +kernel
theorem dX9_way_32 : decode cX9_way 32 = .ok (.ldc 111, 2) := by decide +kernel
theorem dX9_way_34 : decode cX9_way 34 = .ok (.invokespecial 113, 3) := by decide +kernel
theorem dX9_way_37 : decode cX9_way 37 = .ok (.athrow, 1) := by decide +kernel
theorem dX9_way_38 : decode cX9_way 38 = .ok (.iload_n 1, 1) := by decide +kernel
theorem dX9_way_39 : decode cX9_way 39 = .ok (.iload_n 2, 1) := by decide +kernel
theorem dX9_way_40 : decode cX9_way 40 = .ok (.invokestatic 134, 3) := by decide +kernel
theorem dX9_way_43 : decode cX9_way 43 = .ok (.istore 6, 2) := by decide +kernel
theorem dX9_way_45 : decode cX9_way 45 = .ok (.aload_n 0, 1) := by decide +kernel
theorem dX9_way_46 : decode cX9_way 46 = .ok (.getfield 21, 3) := by decide +kernel
theorem dX9_way_49 : decode cX9_way 49 = .ok (.iload_n 3, 1) := by decide +kernel
theorem dX9_way_50 : decode cX9_way 50 = .ok (.iload 4, 2) := by decide +kernel
theorem dX9_way_52 : decode cX9_way 52 = .ok (.invokestatic 134, 3) := by decide +kernel
theorem dX9_way_55 : decode cX9_way 55 = .ok (.invokevirtual 137, 3) := by decide +kernel
theorem dX9_way_58 : decode cX9_way 58 = .ok (.iload 5, 2) := by decide +kernel
theorem dX9_way_60 : decode cX9_way 60 = .ok (.ifCond .ne 13, 3) := by decide +kernel
theorem dX9_way_63 : decode cX9_way 63 = .ok (.aload_n 0, 1) := by decide +kernel
theorem dX9_way_64 : decode cX9_way 64 = .ok (.getfield 21, 3) := by decide +kernel
theorem dX9_way_67 : decode cX9_way 67 = .ok (.iload 6, 2) := by decide +kernel
theorem dX9_way_69 : decode cX9_way 69 = .ok (.invokevirtual 140, 3) := by decide +kernel
theorem dX9_way_72 : decode cX9_way 72 = .ok (.ireturn, 1) := by decide +kernel
theorem dX9_way_73 : decode cX9_way 73 = .ok (.iload 5, 2) := by decide +kernel
theorem dX9_way_75 : decode cX9_way 75 = .ok (.iconst 3, 1) := by decide +kernel
theorem dX9_way_76 : decode cX9_way 76 = .ok (.if_icmp .ne 13, 3) := by decide +kernel
theorem dX9_way_79 : decode cX9_way 79 = .ok (.aload_n 0, 1) := by decide +kernel
theorem dX9_way_80 : decode cX9_way 80 = .ok (.getfield 21, 3) := by decide +kernel
theorem dX9_way_83 : decode cX9_way 83 = .ok (.iload 6, 2) := by decide +kernel
theorem dX9_way_85 : decode cX9_way 85 = .ok (.invokevirtual 144, 3) := by decide +kernel
theorem dX9_way_88 : decode cX9_way 88 = .ok (.ireturn, 1) := by decide +kernel
theorem dX9_way_89 : decode cX9_way 89 = .ok (.aload_n 0, 1) := by decide +kernel
theorem dX9_way_90 : decode cX9_way 90 = .ok (.getfield 21, 3) := by decide +kernel
theorem dX9_way_93 : decode cX9_way 93 = .ok (.iload 6, 2) := by decide +kernel
theorem dX9_way_95 : decode cX9_way 95 = .ok (.iload 5, 2) := by decide +kernel
theorem dX9_way_97 : decode cX9_way 97 = .ok (.iconst 1, 1) := by decide +kernel
theorem dX9_way_98 : decode cX9_way 98 = .ok (.if_icmp .ne 7, 3) := by decide +kernel
theorem dX9_way_101 : decode cX9_way 101 = .ok (.iconst 1, 1) := by decide +kernel
theorem dX9_way_102 : decode cX9_way 102 = .ok (.goto 4, 3) := by decide +kernel
theorem dX9_way_105 : decode cX9_way 105 = .ok (.iconst 0, 1) := by decide +kernel
theorem dX9_way_106 : decode cX9_way 106 = .ok (.invokevirtual 147, 3) := by decide +kernel
theorem dX9_way_109 : decode cX9_way 109 = .ok (.ireturn, 1) := by decide +kernel
theorem dX9_addTarget_0 : decode cX9_addTarget 0 = .ok (.iload_n 1, 1) := by decide +kernel
theorem dX9_addTarget_1 : decode cX9_addTarget 1 = .ok (.iload_n 2, 1) := by decide +kernel
theorem dX9_addTarget_2 : decode cX9_addTarget 2 = .ok (.invokestatic 105, 3) := by decide +kernel
theorem dX9_addTarget_5 : decode cX9_addTarget 5 = .ok (.ifCond .ne 13, 3) := by decide +kernel
theorem dX9_addTarget_8 : decode cX9_addTarget 8 = .ok (.new 109, 3) := by decide +kernel
theorem dX9_addTarget_11 : decode cX9_addTarget 11 = .ok (.dup, 1) := by decide +kernel
theorem dX9_addTarget_12 : decode cX9_addTarget 12 = .ok (.ldc 151, 2) := by decide +kernel
theorem dX9_addTarget_14 : decode cX9_addTarget 14 = .ok (.invokespecial 113, 3) := by decide +kernel
theorem dX9_addTarget_17 : decode cX9_addTarget 17 = .ok (.athrow, 1) := by decide +kernel
theorem dX9_addTarget_18 : decode cX9_addTarget 18 = .ok (.iload_n 3, 1) := by decide +kernel
theorem dX9_addTarget_19 : decode cX9_addTarget 19 = .ok (.iconst 1, 1) := by decide +kernel
theorem dX9_addTarget_20 : decode cX9_addTarget 20 = .ok (.if_icmp .lt 21, 3) := by decide +kernel
theorem dX9_addTarget_23 : decode cX9_addTarget 23 = .ok (.iload_n 3, 1) := by decide +kernel
theorem dX9_addTarget_24 : decode cX9_addTarget 24 = .ok (.bipush 100, 2) := by decide +kernel
theorem dX9_addTarget_26 : decode cX9_addTarget 26 = .ok (.if_icmp .gt 15, 3) := by decide +kernel
theorem dX9_addTarget_29 : decode cX9_addTarget 29 = .ok (.iload 4, 2) := by decide +kernel
theorem dX9_addTarget_31 : decode cX9_addTarget 31 = .ok (.iconst 1, 1) := by decide +kernel
theorem dX9_addTarget_32 : decode cX9_addTarget 32 = .ok (.if_icmp .lt 9, 3) := by decide +kernel
theorem dX9_addTarget_35 : decode cX9_addTarget 35 = .ok (.iload 4, 2) := by decide +kernel
theorem dX9_addTarget_37 : decode cX9_addTarget 37 = .ok (.iconst 4, 1) := by decide +kernel
theorem dX9_addTarget_38 : decode cX9_addTarget 38 = .ok (.if_icmp .le 13, 3) := by decide +kernel
theorem dX9_addTarget_41 : decode cX9_addTarget 41 = .ok (.new 88, 3) := by decide +kernel
theorem dX9_addTarget_44 : decode cX9_addTarget 44 = .ok (.dup, 1) := by decide +kernel
theorem dX9_addTarget_45 : decode cX9_addTarget 45 = .ok (.ldc 156, 2) := by decide +kernel
theorem dX9_addTarget_47 : decode cX9_addTarget 47 = .ok (.invokespecial 92, 3) := by decide +kernel
theorem dX9_addTarget_50 : decode cX9_addTarget 50 = .ok (.athrow, 1) := by decide +kernel
theorem dX9_addTarget_51 : decode cX9_addTarget 51 = .ok (.aload_n 0, 1) := by decide +kernel
theorem dX9_addTarget_52 : decode cX9_addTarget 52 = .ok (.getfield 28, 3) := by decide +kernel
theorem dX9_addTarget_55 : decode cX9_addTarget 55 = .ok (.invokevirtual 158, 3) := by decide +kernel
theorem dX9_addTarget_58 : decode cX9_addTarget 58 = .ok (.ifCond .eq 13, 3) := by decide +kernel
theorem dX9_addTarget_61 : decode cX9_addTarget 61 = .ok (.new 162, 3) := by decide +kernel
theorem dX9_addTarget_64 : decode cX9_addTarget 64 = .ok (.dup, 1) := by decide +kernel
theorem dX9_addTarget_65 : decode cX9_addTarget 65 = .ok (.ldc 164, 2) := by decide +kernel
theorem dX9_addTarget_67 : decode cX9_addTarget 67 = .ok (.invokespecial 166, 3) := by decide +kernel
theorem dX9_addTarget_70 : decode cX9_addTarget 70 = .ok (.athrow, 1) := by decide +kernel
theorem dX9_addTarget_71 : decode cX9_addTarget 71 = .ok (.aload_n 0, 1) := by decide +kernel
theorem dX9_addTarget_72 : decode cX9_addTarget 72 = .ok (.getfield 28, 3) := by decide +kernel
theorem dX9_addTarget_75 : decode cX9_addTarget 75 = .ok (.iload_n 1, 1) := by decide +kernel
theorem dX9_addTarget_76 : decode cX9_addTarget 76 = .ok (.iload_n 2, 1) := by decide +kernel
theorem dX9_addTarget_77 : decode cX9_addTarget 77 = .ok (.iload_n 3, 1) := by decide +kernel
theorem dX9_addTarget_78 : decode cX9_addTarget 78 = .ok (.iload 4, 2) := by decide +kernel
theorem dX9_addTarget_80 : decode cX9_addTarget 80 = .ok (.invokevirtual 167, 3) := by decide +kernel
theorem dX9_addTarget_83 : decode cX9_addTarget 83 = .ok (.ireturn, 1) := by decide +kernel
theorem dX9_target_0 : decode cX9_target 0 = .ok (.aload_n 0, 1) := by decide +kernel
theorem dX9_target_1 : decode cX9_target 1 = .ok (.getfield 28, 3) := by decide +kernel
theorem dX9_target_4 : decode cX9_target 4 = .ok (.iload_n 1, 1) := by decide +kernel
theorem dX9_target_5 : decode cX9_target 5 = .ok (.invokevirtual 171, 3) := by decide +kernel
theorem dX9_target_8 : decode cX9_target 8 = .ok (.ifCond .eq 12, 3) := by decide +kernel
theorem dX9_target_11 : decode cX9_target 11 = .ok (.iload_n 2, 1) := by decide +kernel
theorem dX9_target_12 : decode cX9_target 12 = .ok (.ifCond .lt 8, 3) := by decide +kernel
theorem dX9_target_15 : decode cX9_target 15 = .ok (.iload_n 2, 1) := by decide +kernel
theorem dX9_target_16 : decode cX9_target 16 = .ok (.iconst 5, 1) := by decide +kernel
theorem dX9_target_17 : decode cX9_target 17 = .ok (.if_icmp .le 13, 3) := by decide +kernel
theorem dX9_target_20 : decode cX9_target 20 = .ok (.new 109, 3) := by decide +kernel
theorem dX9_target_23 : decode cX9_target 23 = .ok (.dup, 1) := by decide +kernel
theorem dX9_target_24 : decode cX9_target 24 = .ok (.ldc 175, 2) := by decide +kernel
theorem dX9_target_26 : decode cX9_target 26 = .ok (.invokespecial 113, 3) := by decide +kernel
theorem dX9_target_29 : decode cX9_target 29 = .ok (.athrow, 1) := by decide +kernel
theorem dX9_target_30 : decode cX9_target 30 = .ok (.aload_n 0, 1) := by decide +kernel
theorem dX9_target_31 : decode cX9_target 31 = .ok (.getfield 28, 3) := by decide +kernel
theorem dX9_target_34 : decode cX9_target 34 = .ok (.iload_n 1, 1) := by decide +kernel
theorem dX9_target_35 : decode cX9_target 35 = .ok (.iload_n 2, 1) := by decide +kernel
theorem dX9_target_36 : decode cX9_target 36 = .ok (.aload_n 0, 1) := by decide +kernel
theorem dX9_target_37 : decode cX9_target 37 = .ok (.getfield 60, 3) := by decide +kernel
theorem dX9_target_40 : decode cX9_target 40 = .ok (.invokevirtual 177, 3) := by decide +kernel
theorem dX9_target_43 : decode cX9_target 43 = .ok (.ireturn, 1) := by decide +kernel
theorem dX9_addPass_0 : decode cX9_addPass 0 = .ok (.iload_n 1, 1) := by decide +kernel
theorem dX9_addPass_1 : decode cX9_addPass 1 = .ok (.ifCond .lt 33, 3) := by decide +kernel
theorem dX9_addPass_4 : decode cX9_addPass 4 = .ok (.iload_n 1, 1) := by decide +kernel
theorem dX9_addPass_5 : decode cX9_addPass 5 = .ok (.sipush 1440, 3) := by decide +kernel
theorem dX9_addPass_8 : decode cX9_addPass 8 = .ok (.if_icmp .ge 26, 3) := by decide +kernel
theorem dX9_addPass_11 : decode cX9_addPass 11 = .ok (.iload_n 2, 1) := by decide +kernel
theorem dX9_addPass_12 : decode cX9_addPass 12 = .ok (.iload_n 1, 1) := by decide +kernel
theorem dX9_addPass_13 : decode cX9_addPass 13 = .ok (.if_icmp .le 21, 3) := by decide +kernel
theorem dX9_addPass_16 : decode cX9_addPass 16 = .ok (.iload_n 2, 1) := by decide +kernel
theorem dX9_addPass_17 : decode cX9_addPass 17 = .ok (.sipush 1440, 3) := by decide +kernel
theorem dX9_addPass_20 : decode cX9_addPass 20 = .ok (.if_icmp .gt 14, 3) := by decide +kernel
theorem dX9_addPass_23 : decode cX9_addPass 23 = .ok (.iload_n 3, 1) := by decide +kernel
theorem dX9_addPass_24 : decode cX9_addPass 24 = .ok (.iconst 1, 1) := by decide +kernel
theorem dX9_addPass_25 : decode cX9_addPass 25 = .ok (.if_icmp .lt 9, 3) := by decide +kernel
theorem dX9_addPass_28 : decode cX9_addPass 28 = .ok (.iload_n 3, 1) := by decide +kernel
theorem dX9_addPass_29 : decode cX9_addPass 29 = .ok (.bipush 20, 2) := by decide +kernel
theorem dX9_addPass_31 : decode cX9_addPass 31 = .ok (.if_icmp .le 13, 3) := by decide +kernel
theorem dX9_addPass_34 : decode cX9_addPass 34 = .ok (.new 88, 3) := by decide +kernel
theorem dX9_addPass_37 : decode cX9_addPass 37 = .ok (.dup, 1) := by decide +kernel
theorem dX9_addPass_38 : decode cX9_addPass 38 = .ok (.ldc 181, 2) := by decide +kernel
theorem dX9_addPass_40 : decode cX9_addPass 40 = .ok (.invokespecial 92, 3) := by decide +kernel
theorem dX9_addPass_43 : decode cX9_addPass 43 = .ok (.athrow, 1) := by decide +kernel
theorem dX9_addPass_44 : decode cX9_addPass 44 = .ok (.aload_n 0, 1) := by decide +kernel
theorem dX9_addPass_45 : decode cX9_addPass 45 = .ok (.getfield 35, 3) := by decide +kernel
theorem dX9_addPass_48 : decode cX9_addPass 48 = .ok (.invokevirtual 183, 3) := by decide +kernel
theorem dX9_addPass_51 : decode cX9_addPass 51 = .ok (.ifCond .eq 13, 3) := by decide +kernel
theorem dX9_addPass_54 : decode cX9_addPass 54 = .ok (.new 162, 3) := by decide +kernel
theorem dX9_addPass_57 : decode cX9_addPass 57 = .ok (.dup, 1) := by decide +kernel
theorem dX9_addPass_58 : decode cX9_addPass 58 = .ok (.ldc 184, 2) := by decide +kernel
theorem dX9_addPass_60 : decode cX9_addPass 60 = .ok (.invokespecial 166, 3) := by decide +kernel
theorem dX9_addPass_63 : decode cX9_addPass 63 = .ok (.athrow, 1) := by decide +kernel
theorem dX9_addPass_64 : decode cX9_addPass 64 = .ok (.aload_n 0, 1) := by decide +kernel
theorem dX9_addPass_65 : decode cX9_addPass 65 = .ok (.getfield 35, 3) := by decide +kernel
theorem dX9_addPass_68 : decode cX9_addPass 68 = .ok (.iload_n 1, 1) := by decide +kernel
theorem dX9_addPass_69 : decode cX9_addPass 69 = .ok (.iload_n 2, 1) := by decide +kernel
theorem dX9_addPass_70 : decode cX9_addPass 70 = .ok (.iload_n 3, 1) := by decide +kernel
theorem dX9_addPass_71 : decode cX9_addPass 71 = .ok (.invokevirtual 186, 3) := by decide +kernel
theorem dX9_addPass_74 : decode cX9_addPass 74 = .ok (.ireturn, 1) := by decide +kernel
theorem dX9_setRover_0 : decode cX9_setRover 0 = .ok (.iload_n 1, 1) := by decide +kernel
theorem dX9_setRover_1 : decode cX9_setRover 1 = .ok (.bipush 100, 2) := by decide +kernel
theorem dX9_setRover_3 : decode cX9_setRover 3 = .ok (.if_icmp .lt 23, 3) := by decide +kernel
theorem dX9_setRover_6 : decode cX9_setRover 6 = .ok (.iload_n 1, 1) := by decide +kernel
theorem dX9_setRover_7 : decode cX9_setRover 7 = .ok (.sipush 20000, 3) := by decide +kernel
theorem dX9_setRover_10 : decode cX9_setRover 10 = .ok (.if_icmp .gt 16, 3) := by decide +kernel
theorem dX9_setRover_13 : decode cX9_setRover 13 = .ok (.iload_n 2, 1) := by decide +kernel
theorem dX9_setRover_14 : decode cX9_setRover 14 = .ok (.bipush 40, 2) := by decide +kernel
theorem dX9_setRover_16 : decode cX9_setRover 16 = .ok (.if_icmp .lt 10, 3) := by decide +kernel
theorem dX9_setRover_19 : decode cX9_setRover 19 = .ok (.iload_n 2, 1) := by decide +kernel
theorem dX9_setRover_20 : decode cX9_setRover 20 = .ok (.sipush 5000, 3) := by decide +kernel
theorem dX9_setRover_23 : decode cX9_setRover 23 = .ok (.if_icmp .le 13, 3) := by decide +kernel
theorem dX9_setRover_26 : decode cX9_setRover 26 = .ok (.new 88, 3) := by decide +kernel
theorem dX9_setRover_29 : decode cX9_setRover 29 = .ok (.dup, 1) := by decide +kernel
theorem dX9_setRover_30 : decode cX9_setRover 30 = .ok (.ldc 206, 2) := by decide +kernel
theorem dX9_setRover_32 : decode cX9_setRover 32 = .ok (.invokespecial 92, 3) := by decide +kernel
theorem dX9_setRover_35 : decode cX9_setRover 35 = .ok (.athrow, 1) := by decide +kernel
theorem dX9_setRover_36 : decode cX9_setRover 36 = .ok (.aload_n 0, 1) := by decide +kernel
theorem dX9_setRover_37 : decode cX9_setRover 37 = .ok (.getfield 60, 3) := by decide +kernel
theorem dX9_setRover_40 : decode cX9_setRover 40 = .ok (.invokevirtual 208, 3) := by decide +kernel
theorem dX9_setRover_43 : decode cX9_setRover 43 = .ok (.iload_n 2, 1) := by decide +kernel
theorem dX9_setRover_44 : decode cX9_setRover 44 = .ok (.if_icmp .le 13, 3) := by decide +kernel
theorem dX9_setRover_47 : decode cX9_setRover 47 = .ok (.new 162, 3) := by decide +kernel
theorem dX9_setRover_50 : decode cX9_setRover 50 = .ok (.dup, 1) := by decide +kernel
theorem dX9_setRover_51 : decode cX9_setRover 51 = .ok (.ldc 212, 2) := by decide +kernel
theorem dX9_setRover_53 : decode cX9_setRover 53 = .ok (.invokespecial 166, 3) := by decide +kernel
theorem dX9_setRover_56 : decode cX9_setRover 56 = .ok (.athrow, 1) := by decide +kernel
theorem dX9_setRover_57 : decode cX9_setRover 57 = .ok (.aload_n 0, 1) := by decide +kernel
theorem dX9_setRover_58 : decode cX9_setRover 58 = .ok (.getfield 44, 3) := by decide +kernel
theorem dX9_setRover_61 : decode cX9_setRover 61 = .ok (.getfield 214, 3) := by decide +kernel
theorem dX9_setRover_64 : decode cX9_setRover 64 = .ok (.istore_n 3, 1) := by decide +kernel
theorem dX9_setRover_65 : decode cX9_setRover 65 = .ok (.aload_n 0, 1) := by decide +kernel
theorem dX9_setRover_66 : decode cX9_setRover 66 = .ok (.getfield 44, 3) := by decide +kernel
theorem dX9_setRover_69 : decode cX9_setRover 69 = .ok (.iload_n 1, 1) := by decide +kernel
theorem dX9_setRover_70 : decode cX9_setRover 70 = .ok (.putfield 214, 3) := by decide +kernel
theorem dX9_setRover_73 : decode cX9_setRover 73 = .ok (.aload_n 0, 1) := by decide +kernel
theorem dX9_setRover_74 : decode cX9_setRover 74 = .ok (.getfield 44, 3) := by decide +kernel
theorem dX9_setRover_77 : decode cX9_setRover 77 = .ok (.iload_n 2, 1) := by decide +kernel
theorem dX9_setRover_78 : decode cX9_setRover 78 = .ok (.putfield 217, 3) := by decide +kernel
theorem dX9_setRover_81 : decode cX9_setRover 81 = .ok (.aload_n 0, 1) := by decide +kernel
theorem dX9_setRover_82 : decode cX9_setRover 82 = .ok (.getfield 60, 3) := by decide +kernel
theorem dX9_setRover_85 : decode cX9_setRover 85 = .ok (.iload_n 1, 1) := by decide +kernel
theorem dX9_setRover_86 : decode cX9_setRover 86 = .ok (.invokevirtual 220, 3) := by decide +kernel
theorem dX9_setRover_89 : decode cX9_setRover 89 = .ok (.iload_n 3, 1) := by decide +kernel
theorem dX9_setRover_90 : decode cX9_setRover 90 = .ok (.ireturn, 1) := by decide +kernel
theorem dX9_rover_0 : decode cX9_rover 0 = .ok (.iload_n 1, 1) := by decide +kernel
theorem dX9_rover_1 : decode cX9_rover 1 = .ok (.ifCond .lt 9, 3) := by decide +kernel
theorem dX9_rover_4 : decode cX9_rover 4 = .ok (.iload_n 1, 1) := by decide +kernel
theorem dX9_rover_5 : decode cX9_rover 5 = .ok (.bipush 9, 2) := by decide +kernel
theorem dX9_rover_7 : decode cX9_rover 7 = .ok (.if_icmp .le 13, 3) := by decide +kernel
theorem dX9_rover_10 : decode cX9_rover 10 = .ok (.new 109, 3) := by decide +kernel
theorem dX9_rover_13 : decode cX9_rover 13 = .ok (.dup, 1) := by decide +kernel
theorem dX9_rover_14 : decode cX9_rover 14 = .ok (.ldc 223, 2) := by decide +kernel
theorem dX9_rover_16 : decode cX9_rover 16 = .ok (.invokespecial 113, 3) := by decide +kernel
theorem dX9_rover_19 : decode cX9_rover 19 = .ok (.athrow, 1) := by decide +kernel
theorem dX9_rover_20 : decode cX9_rover 20 = .ok (.aload_n 0, 1) := by decide +kernel
theorem dX9_rover_21 : decode cX9_rover 21 = .ok (.getfield 60, 3) := by decide +kernel
theorem dX9_rover_24 : decode cX9_rover 24 = .ok (.iload_n 1, 1) := by decide +kernel
theorem dX9_rover_25 : decode cX9_rover 25 = .ok (.invokevirtual 225, 3) := by decide +kernel

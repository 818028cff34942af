theorem dX0_init_0 : decode cX0_init 0 = .ok (.aload_n 0, 1) := by decide +kernel
theorem dX0_init_1 : decode cX0_init 1 = .ok (.invokespecial 3, 3) := by decide +kernel
theorem dX0_init_4 : decode cX0_init 4 = .ok (.aload_n 0, 1) := by decide +kernel
theorem dX0_init_5 : decode cX0_init 5 = .ok (.new 9, 3) := by decide +kernel
theorem dX0_init_8 : decode cX0_init 8 = .ok (.dup, 1) := by decide +kernel
theorem dX0_init_9 : decode cX0_init 9 = .ok (.invokespecial 11, 3) := by decide +kernel
theorem dX0_init_12 : decode cX0_init 12 = .ok (.putfield 12, 3) := by decide +kernel
theorem dX0_init_15 : decode cX0_init 15 = .ok (.aload_n 0, 1) := by decide +kernel
theorem dX0_init_16 : decode cX0_init 16 = .ok (.sipush 4000, 3) := by decide +kernel
theorem dX0_init_19 : decode cX0_init 19 = .ok (.putfield 18, 3) := by decide +kernel
theorem dX0_init_22 : decode cX0_init 22 = .ok (.aload_n 0, 1) := by decide +kernel
theorem dX0_init_23 : decode cX0_init 23 = .ok (.sipush 800, 3) := by decide +kernel
theorem dX0_init_26 : decode cX0_init 26 = .ok (.putfield 22, 3) := by decide +kernel
theorem dX0_init_29 : decode cX0_init 29 = .ok (.aload_n 0, 1) := by decide +kernel
theorem dX0_init_30 : decode cX0_init 30 = .ok (.iconst 0, 1) := by decide +kernel
theorem dX0_init_31 : decode cX0_init 31 = .ok (.putfield 25, 3) := by decide +kernel
theorem dX0_init_34 : decode cX0_init 34 = .ok (.aload_n 0, 1) := by decide +kernel
theorem dX0_init_35 : decode cX0_init 35 = .ok (.aload_n 1, 1) := by decide +kernel
theorem dX0_init_36 : decode cX0_init 36 = .ok (.putfield 28, 3) := by decide +kernel
theorem dX0_init_39 : decode cX0_init 39 = .ok (.aload_n 0, 1) := by decide +kernel
theorem dX0_init_40 : decode cX0_init 40 = .ok (.aload_n 2, 1) := by decide +kernel
theorem dX0_init_41 : decode cX0_init 41 = .ok (.putfield 32, 3) := by decide +kernel
theorem dX0_init_44 : decode cX0_init 44 = .ok (.aload_n 0, 1) := by decide +kernel
theorem dX0_init_45 : decode cX0_init 45 = .ok (.aload_n 3, 1) := by decide +kernel
theorem dX0_init_46 : decode cX0_init 46 = .ok (.putfield 36, 3) := by decide +kernel
theorem dX0_init_49 : decode cX0_init 49 = .ok (.aload_n 0, 1) := by decide +kernel
theorem dX0_init_50 : decode cX0_init 50 = .ok (.aload 4, 2) := by decide +kernel
theorem dX0_init_52 : decode cX0_init 52 = .ok (.putfield 40, 3) := by decide +kernel
theorem dX0_init_55 : decode cX0_init 55 = .ok (.return_, 1) := by decide +kernel
theorem dX0_lightAt_0 : decode cX0_lightAt 0 = .ok (.iload_n 0, 1) := by decide +kernel
theorem dX0_lightAt_1 : decode cX0_lightAt 1 = .ok (.sipush 360, 3) := by decide +kernel
theorem dX0_lightAt_4 : decode cX0_lightAt 4 = .ok (.if_icmp .lt 10, 3) := by decide +kernel
theorem dX0_lightAt_7 : decode cX0_lightAt 7 = .ok (.iload_n 0, 1) := by decide +kernel
theorem dX0_lightAt_8 : decode cX0_lightAt 8 = .ok (.sipush 1080, 3) := by decide +kernel
theorem dX0_lightAt_11 : decode cX0_lightAt 11 = .ok (.if_icmp .lt 5, 3) := by decide +kernel
theorem dX0_lightAt_14 : decode cX0_lightAt 14 = .ok (.iconst 0, 1) := by decide +kernel
theorem dX0_lightAt_15 : decode cX0_lightAt 15 = .ok (.ireturn, 1) := by decide +kernel
theorem dX0_lightAt_16 : decode cX0_lightAt 16 = .ok (.iload_n 0, 1) := by decide +kernel
theorem dX0_lightAt_17 : decode cX0_lightAt 17 = .ok (.sipush 720, 3) := by decide +kernel
theorem dX0_lightAt_20 : decode cX0_lightAt 20 = .ok (.if_icmp .ge 11, 3) := by decide +kernel
theorem dX0_lightAt_23 : decode cX0_lightAt 23 = .ok (.iload_n 0, 1) := by decide +kernel
theorem dX0_lightAt_24 : decode cX0_lightAt 24 = .ok (.sipush 360, 3) := by decide +kernel
theorem dX0_lightAt_27 : decode cX0_lightAt 27 = .ok (.isub, 1) := by decide +kernel
theorem dX0_lightAt_28 : decode cX0_lightAt 28 = .ok (.goto 8, 3) := by decide +kernel
theorem dX0_lightAt_31 : decode cX0_lightAt 31 = .ok (.sipush 1080, 3) := by decide +kernel
theorem dX0_lightAt_34 : decode cX0_lightAt 34 = .ok (.iload_n 0, 1) := by decide +kernel
theorem dX0_lightAt_35 : decode cX0_lightAt 35 = .ok (.isub, 1) := by decide +kernel
theorem dX0_lightAt_36 : decode cX0_lightAt 36 = .ok (.ireturn, 1) := by decide +kernel
theorem dX0_airBy_0 : decode cX0_airBy 0 = .ok (.bipush (-70), 2) := by decide +kernel
theorem dX0_airBy_2 : decode cX0_airBy 2 = .ok (.iload_n 0, 1) := by decide +kernel
theorem dX0_airBy_3 : decode cX0_airBy 3 = .ok (.bipush 6, 2) := by decide +kernel
theorem dX0_airBy_5 : decode cX0_airBy 5 = .ok (.idiv, 1) := by decide +kernel
theorem dX0_airBy_6 : decode cX0_airBy 6 = .ok (.iadd, 1) := by decide +kernel
theorem dX0_airBy_7 : decode cX0_airBy 7 = .ok (.ireturn, 1) := by decide +kernel
theorem dX0_powerBy_0 : decode cX0_powerBy 0 = .ok (.iload_n 0, 1) := by decide +kernel
theorem dX0_powerBy_1 : decode cX0_powerBy 1 = .ok (.iload_n 1, 1) := by decide +kernel
theorem dX0_powerBy_2 : decode cX0_powerBy 2 = .ok (.imul, 1) := by decide +kernel
theorem dX0_powerBy_3 : decode cX0_powerBy 3 = .ok (.sipush 3600, 3) := by decide +kernel
theorem dX0_powerBy_6 : decode cX0_powerBy 6 = .ok (.idiv, 1) := by decide +kernel
theorem dX0_powerBy_7 : decode cX0_powerBy 7 = .ok (.ireturn, 1) := by decide +kernel
theorem dX0_performAll_0 : decode cX0_performAll 0 = .ok (.aload_n 0, 1) := by decide +kernel
theorem dX0_performAll_1 : decode cX0_performAll 1 = .ok (.iconst 0, 1) := by decide +kernel
theorem dX0_performAll_2 : decode cX0_performAll 2 = .ok (.putfield 25, 3) := by decide +kernel
theorem dX0_performAll_5 : decode cX0_performAll 5 = .ok (.iconst 0, 1) := by decide +kernel
theorem dX0_performAll_6 : decode cX0_performAll 6 = .ok (.istore 4, 2) := by decide +kernel
theorem dX0_performAll_8 : decode cX0_performAll 8 = .ok (.iload 4, 2) := by decide +kernel
theorem dX0_performAll_10 : decode cX0_performAll 10 = .ok (.iload_n 3, 1) := by decide +kernel
theorem dX0_performAll_11 : decode cX0_performAll 11 = .ok (.if_icmp .ge 58, 3) := by decide +kernel
theorem dX0_performAll_14 : decode cX0_performAll 14 = .ok (.aload_n 2, 1) := by decide +kernel
theorem dX0_performAll_15 : decode cX0_performAll 15 = .ok (.iload 4, 2) := by decide +kernel
theorem dX0_performAll_17 : decode cX0_performAll 17 = .ok (.invokevirtual 44, 3) := by decide +kernel
theorem dX0_performAll_20 : decode cX0_performAll 20 = .ok (.ifCond .eq 49, 3) := by decide +kernel
theorem dX0_performAll_23 : decode cX0_performAll 23 = .ok (.aload_n 0, 1) := by decide +kernel
theorem dX0_performAll_24 : decode cX0_performAll 24 = .ok (.aload_n 0, 1) := by decide +kernel
theorem dX0_performAll_25 : decode cX0_performAll 25 = .ok (.aload_n 1, 1) := by decide +kernel
theorem dX0_performAll_26 : decode cX0_performAll 26 = .ok (.aload_n 2, 1) := by decide +kernel
theorem dX0_performAll_27 : decode cX0_performAll 27 = .ok (.iload 4, 2) := by decide +kernel
theorem dX0_performAll_29 : decode cX0_performAll 29 = .ok (.iconst 0, 1) := by decide +kernel
theorem dX0_performAll_30 : decode cX0_performAll 30 = .ok (.invokevirtual 50, 3) := by decide +kernel
theorem dX0_performAll_33 : decode cX0_performAll 33 = .ok (.aload_n 2, 1) := by decide +kernel
theorem dX0_performAll_34 : decode cX0_performAll 34 = .ok (.iload 4, 2) := by decide +kernel
theorem dX0_performAll_36 : decode cX0_performAll 36 = .ok (.iconst 1, 1) := by decide +kernel
theorem dX0_performAll_37 : decode cX0_performAll 37 = .ok (.invokevirtual 50, 3) := by decide +kernel
theorem dX0_performAll_40 : decode cX0_performAll 40 = .ok (.aload_n 2, 1) := by decide +kernel
theorem dX0_performAll_41 : decode cX0_performAll 41 = .ok (.iload 4, 2) := by decide +kernel
theorem dX0_performAll_43 : decode cX0_performAll 43 = .ok (.iconst 2, 1) := by decide +kernel
theorem dX0_performAll_44 : decode cX0_performAll 44 = .ok (.invokevirtual 50, 3) := by decide +kernel
theorem dX0_performAll_47 : decode cX0_performAll 47 = .ok (.invokevirtual 54, 3) := by decide +kernel
theorem dX0_performAll_50 : decode cX0_performAll 50 = .ok (.putfield 25, 3) := by decide +kernel
theorem dX0_performAll_53 : decode cX0_performAll 53 = .ok (.aload_n 0, 1) := by decide +kernel
theorem dX0_performAll_54 : decode cX0_performAll 54 = .ok (.getfield 25, 3) := by decide +kernel
theorem dX0_performAll_57 : decode cX0_performAll 57 = .ok (.ifCond .eq 6, 3) := by decide +kernel
theorem dX0_performAll_60 : decode cX0_performAll 60 = .ok (.iload 4, 2) := by decide +kernel
theorem dX0_performAll_62 : decode cX0_performAll 62 = .ok (.ireturn, 1) := by decide +kernel
theorem dX0_performAll_63 : decode cX0_performAll 63 = .ok (.iinc 4 1, 3) := by decide +kernel
theorem dX0_performAll_66 : decode cX0_performAll 66 = .ok (.goto (-58), 3) := by decide +kernel
theorem dX0_performAll_69 : decode cX0_performAll 69 = .ok (.iload_n 3, 1) := by decide +kernel
theorem dX0_performAll_70 : decode cX0_performAll 70 = .ok (.aload_n 2, 1) := by decide +kernel
theorem dX0_performAll_71 : decode cX0_performAll 71 = .ok (.getfield 58, 3) := by decide +kernel
theorem dX0_performAll_74 : decode cX0_performAll 74 = .ok (.invokestatic 61, 3) := by decide +kernel
theorem dX0_performAll_77 : decode cX0_performAll 77 = .ok (.ireturn, 1) := by decide +kernel
theorem dX0_perform_0 : decode cX0_perform 0 = .ok (.aload_n 0, 1) := by decide +kernel
theorem dX0_perform_1 : decode cX0_perform 1 = .ok (.getfield 12, 3) := by decide +kernel
theorem dX0_perform_4 : decode cX0_perform 4 = .ok (.aload_n 1, 1) := by decide +kernel
theorem dX0_perform_5 : decode cX0_perform 5 = .ok (.invokevirtual 66, 3) := by decide +kernel
theorem dX0_perform_8 : decode cX0_perform 8 = .ok (.iconst 0, 1) := by decide +kernel
theorem dX0_perform_9 : decode cX0_perform 9 = .ok (.istore 5, 2) := by decide +kernel
theorem dX0_perform_11 : decode cX0_perform 11 = .ok (.iload_n 2, 1) := by decide +kernel
theorem dX0_perform_12 : decode cX0_perform 12 = .ok (.tableswitch 135 0 6 #[44, 57, 70, 83, 94, 106, 118], 44) := by decide +kernel
theorem dX0_perform_56 : decode cX0_perform 56 = .ok (.aload_n 0, 1) := by decide +kernel
theorem dX0_perform_57 : decode cX0_perform 57 = .ok (.aload_n 1, 1) := by decide +kernel
theorem dX0_perform_58 : decode cX0_perform 58 = .ok (.iload_n 3, 1) := by decide +kernel
theorem dX0_perform_59 : decode cX0_perform 59 = .ok (.iload 4, 2) := by decide +kernel
theorem dX0_perform_61 : decode cX0_perform 61 = .ok (.invokevirtual 70, 3) := by decide +kernel
theorem dX0_perform_64 : decode cX0_perform 64 = .ok (.istore 5, 2) := by decide +kernel
theorem dX0_perform_66 : decode cX0_perform 66 = .ok (.goto 88, 3) := by decide +kernel
theorem dX0_perform_69 : decode cX0_perform 69 = .ok (.aload_n 0, 1) := by decide +kernel
theorem dX0_perform_70 : decode cX0_perform 70 = .ok (.aload_n 1, 1) := by decide +kernel
theorem dX0_perform_71 : decode cX0_perform 71 = .ok (.iload_n 3, 1) := by decide +kernel
theorem dX0_perform_72 : decode cX0_perform 72 = .ok (.iload 4, 2) := by decide +kernel
theorem dX0_perform_74 : decode cX0_perform 74 = .ok (.invokevirtual 74, 3) := by decide +kernel
theorem dX0_perform_77 : decode cX0_perform 77 = .ok (.istore 5, 2) := by decide +kernel
theorem dX0_perform_79 : decode cX0_perform 79 = .ok (.goto 75, 3) := by decide +kernel
theorem dX0_perform_82 : decode cX0_perform 82 = .ok (.aload_n 0, 1) := by decide +kernel
theorem dX0_perform_83 : decode cX0_perform 83 = .ok (.aload_n 1, 1) := by decide +kernel
theorem dX0_perform_84 : decode cX0_perform 84 = .ok (.iload_n 3, 1) := by decide +kernel
theorem dX0_perform_85 : decode cX0_perform 85 = .ok (.iload 4, 2) := by decide +kernel
theorem dX0_perform_87 : decode cX0_perform 87 = .ok (.invokevirtual 77, 3) := by decide +kernel
theorem dX0_perform_90 : decode cX0_perform 90 = .ok (.istore 5, 2) := by decide +kernel
theorem dX0_perform_92 : decode cX0_perform 92 = .ok (.goto 62, 3) := by decide +kernel
theorem dX0_perform_95 : decode cX0_perform 95 = .ok (.aload_n 0, 1) := by decide +kernel
theorem dX0_perform_96 : decode cX0_perform 96 = .ok (.aload_n 1, 1) := by decide +kernel
theorem dX0_perform_97 : decode cX0_perform 97 = .ok (.iload_n 3, 1) := by decide +kernel
theorem dX0_perform_98 : decode cX0_perform 98 = .ok (.invokevirtual 80, 3) := by decide +kernel
theorem dX0_perform_101 : decode cX0_perform 101 = .ok (.istore 5, 2) := by decide +kernel
theorem dX0_perform_103 : decode cX0_perform 103 = .ok (.goto 51, 3) := by decide +kernel
theorem dX0_perform_106 : decode cX0_perform 106 = .ok (.aload_n 0, 1) := by decide +kernel
theorem dX0_perform_107 : decode cX0_perform 107 = .ok (.aload_n 1, 1) := by decide +kernel
theorem dX0_perform_108 : decode cX0_perform 108 = .ok (.iload_n 3, 1) := by decide +kernel
theorem dX0_perform_109 : decode cX0_perform 109 = .ok (.iconst 1, 1) := by decide +kernel
theorem dX0_perform_110 : decode cX0_perform 110 = .ok (.invokevirtual 84, 3) := by decide +kernel
theorem dX0_perform_113 : decode cX0_perform 113 = .ok (.istore 5, 2) := by decide +kernel
theorem dX0_perform_115 : decode cX0_perform 115 = .ok (.goto 39, 3) := by decide +kernel
theorem dX0_perform_118 : decode cX0_perform 118 = .ok (.aload_n 0, 1) := by decide +kernel
theorem dX0_perform_119 : decode cX0_perform 119 = .ok (.aload_n 1, 1) := by decide +kernel
theorem dX0_perform_120 : decode cX0_perform 120 = .ok (.iload_n 3, 1) := by decide +kernel
theorem dX0_perform_121 : decode cX0_perform 121 = .ok (.iconst 0, 1) := by decide +kernel
theorem dX0_perform_122 : decode cX0_perform 122 = .ok (.invokevirtual 84, 3) := by decide +kernel
theorem dX0_perform_125 : decode cX0_perform 125 = .ok (.istore 5, 2) := by decide +kernel
theorem dX0_perform_127 : decode cX0_perform 127 = .ok (.goto 27, 3) := by decide +kernel
theorem dX0_perform_130 : decode cX0_perform 130 = .ok (.aload_n 1, 1) := by decide +kernel
theorem dX0_perform_131 : decode cX0_perform 131 = .ok (.iload_n 3, 1) := by decide +kernel
theorem dX0_perform_132 : decode cX0_perform 132 = .ok (.iconst 1, 1) := by decide +kernel
theorem dX0_perform_133 : decode cX0_perform 133 = .ok (.if_icmp .ne 7, 3) := by decide +kernel
theorem dX0_perform_136 : decode cX0_perform 136 = .ok (.iconst 1, 1) := by decide +kernel
theorem dX0_perform_137 : decode cX0_perform 137 = .ok (.goto 4, 3) := by decide +kernel
theorem dX0_perform_140 : decode cX0_perform 140 = .ok (.iconst 0, 1) := by decide +kernel
theorem dX0_perform_141 : decode cX0_perform 141 = .ok (.putfield 88, 3) := by decide +kernel
theorem dX0_perform_144 : decode cX0_perform 144 = .ok (.goto 10, 3) := by decide +kernel
theorem dX0_perform_147 : decode cX0_perform 147 = .ok (.aload_n 0, 1) := by decide +kernel
theorem dX0_perform_148 : decode cX0_perform 148 = .ok (.aload_n 1, 1) := by decide +kernel
theorem dX0_perform_149 : decode cX0_perform 149 = .ok (.invokevirtual 92, 3) := by decide +kernel
theorem dX0_perform_152 : decode cX0_perform 152 = .ok (.istore 5, 2) := by decide +kernel
theorem dX0_perform_154 : decode cX0_perform 154 = .ok (.iload 5, 2) := by decide +kernel
theorem dX0_perform_156 : decode cX0_perform 156 = .ok (.ifCond .eq 11, 3) := by decide +kernel
theorem dX0_perform_159 : decode cX0_perform 159 = .ok (.aload_n 1, 1) := by decide +kernel
theorem dX0_perform_160 : decode cX0_perform 160 = .ok (.aload_n 0, 1) := by decide +kernel
theorem dX0_perform_161 : decode cX0_perform 161 = .ok (.getfield 12, 3) := by decide +kernel
theorem dX0_perform_164 : decode cX0_perform 164 = .ok (.invokevirtual 66, 3) := by decide +kernel
theorem dX0_perform_167 : decode cX0_perform 167 = .ok (.iload 5, 2) := by decide +kernel
theorem dX0_perform_169 : decode cX0_perform 169 = .ok (.ireturn, 1) := by decide +kernel
theorem dX0_passMinutes_0 : decode cX0_passMinutes 0 = .ok (.iconst 0, 1) := by decide +kernel
theorem dX0_passMinutes_1 : decode cX0_passMinutes 1 = .ok (.istore 5, 2) := by decide +kernel
theorem dX0_passMinutes_3 : decode cX0_passMinutes 3 = .ok (.iload 5, 2) := by decide +kernel
theorem dX0_passMinutes_5 : decode cX0_passMinutes 5 = .ok (.iload_n 2, 1) := by decide +kernel
theorem dX0_passMinutes_6 : decode cX0_passMinutes 6 = .ok (.if_icmp .ge 182, 3) := by decide +kernel
theorem dX0_passMinutes_9 : decode cX0_passMinutes 9 = .ok (.aload_n 1, 1) := by decide +kernel
theorem dX0_passMinutes_10 : decode cX0_passMinutes 10 = .ok (.getfield 96, 3) := by decide +kernel
theorem dX0_passMinutes_13 : decode cX0_passMinutes 13 = .ok (.sipush 14400, 3) := by decide +kernel
theorem dX0_passMinutes_16 : decode cX0_passMinutes 16 = .ok (.if_icmp .lt 6, 3) := by decide +kernel
theorem dX0_passMinutes_19 : decode cX0_passMinutes 19 = .ok (.bipush 7, 2) := by decide +kernel
theorem dX0_passMinutes_21 : decode cX0_passMinutes 21 = .ok (.ireturn, 1) := by decide +kernel
theorem dX0_passMinutes_22 : decode cX0_passMinutes 22 = .ok (.aload_n 1, 1) := by decide +kernel
theorem dX0_passMinutes_23 : decode cX0_passMinutes 23 = .ok (.getfield 96, 3) := by decide +kernel
theorem dX0_passMinutes_26 : decode cX0_passMinutes 26 = .ok (.sipush 1440, 3) := by decide +kernel
theorem dX0_passMinutes_29 : decode cX0_passMinutes 29 = .ok (.irem, 1) := by decide +kernel
theorem dX0_passMinutes_30 : decode cX0_passMinutes 30 = .ok (.invokestatic 99, 3) := by decide +kernel
theorem dX0_passMinutes_33 : decode cX0_passMinutes 33 = .ok (.istore 6, 2) := by decide +kernel
theorem dX0_passMinutes_35 : decode cX0_passMinutes 35 = .ok (.iload_n 3, 1) := by decide +kernel
theorem dX0_passMinutes_36 : decode cX0_passMinutes 36 = .ok (.ifCond .eq 7, 3) := by decide +kernel
theorem dX0_passMinutes_39 : decode cX0_passMinutes 39 = .ok (.iconst 2, 1) := by decide +kernel
theorem dX0_passMinutes_40 : decode cX0_passMinutes 40 = .ok (.goto 4, 3) := by decide +kernel
theorem dX0_passMinutes_43 : decode cX0_passMinutes 43 = .ok (.iconst 1, 1) := by decide +kernel
theorem dX0_passMinutes_44 : decode cX0_passMinutes 44 = .ok (.aload_n 1, 1) := by decide +kernel
theorem dX0_passMinutes_45 : decode cX0_passMinutes 45 = .ok (.getfield 88, 3) := by decide +kernel
theorem dX0_passMinutes_48 : decode cX0_passMinutes 48 = .ok (.ifCond .eq 7, 3) := by decide +kernel
theorem dX0_passMinutes_51 : decode cX0_passMinutes 51 = .ok (.iconst 3, 1) := by decide +kernel
theorem dX0_passMinutes_52 : decode cX0_passMinutes 52 = .ok (.goto 4, 3) := by decide +kernel
theorem dX0_passMinutes_55 : decode cX0_passMinutes 55 = .ok (.iconst 0, 1) := by decide +kernel
theorem dX0_passMinutes_56 : decode cX0_passMinutes 56 = .ok (.iadd, 1) := by decide +kernel
theorem dX0_passMinutes_57 : decode cX0_passMinutes 57 = .ok (.iload 4, 2) := by decide +kernel
theorem dX0_passMinutes_59 : decode cX0_passMinutes 59 = .ok (.iadd, 1) := by decide +kernel
theorem dX0_passMinutes_60 : decode cX0_passMinutes 60 = .ok (.istore 7, 2) := by decide +kernel
theorem dX0_passMinutes_62 : decode cX0_passMinutes 62 = .ok (.aload_n 1, 1) := by decide +kernel
theorem dX0_passMinutes_63 : decode cX0_passMinutes 63 = .ok (.getfield 103, 3) := by decide +kernel
theorem dX0_passMinutes_66 : decode cX0_passMinutes 66 = .ok (.iload 6, 2) := by decide +kernel
theorem dX0_passMinutes_68 : decode cX0_passMinutes 68 = .ok (.aload_n 1, 1) := by decide +kernel
theorem dX0_passMinutes_69 : decode cX0_passMinutes 69 = .ok (.getfield 106, 3) := by decide +kernel
theorem dX0_passMinutes_72 : decode cX0_passMinutes 72 = .ok (.invokestatic 109, 3) := by decide +kernel
theorem dX0_passMinutes_75 : decode cX0_passMinutes 75 = .ok (.iadd, 1) := by decide +kernel
theorem dX0_passMinutes_76 : decode cX0_passMinutes 76 = .ok (.iload 7, 2) := by decide +kernel
theorem dX0_passMinutes_78 : decode cX0_passMinutes 78 = .ok (.isub, 1) := by decide +kernel
theorem dX0_passMinutes_79 : decode cX0_passMinutes 79 = .ok (.istore 8, 2) := by decide +kernel
theorem dX0_passMinutes_81 : decode cX0_passMinutes 81 = .ok (.iload 8, 2) := by decide +kernel
theorem dX0_passMinutes_83 : decode cX0_passMinutes 83 = .ok (.ifCond .ge 5, 3) := by decide +kernel
theorem dX0_passMinutes_86 : decode cX0_passMinutes 86 = .ok (.iconst 2, 1) := by decide +kernel
theorem dX0_passMinutes_87 : decode cX0_passMinutes 87 = .ok (.ireturn, 1) := by decide +kernel
theorem dX0_passMinutes_88 : decode cX0_passMinutes 88 = .ok (.aload_n 1, 1) := by decide +kernel
theorem dX0_passMinutes_89 : decode cX0_passMinutes 89 = .ok (.iload 8, 2) := by decide +kernel
theorem dX0_passMinutes_91 : decode cX0_passMinutes 91 = .ok (.aload_n 0, 1) := by decide +kernel
theorem dX0_passMinutes_92 : decode cX0_passMinutes 92 = .ok (.getfield 18, 3) := by decide +kernel
theorem dX0_passMinutes_95 : decode cX0_passMinutes 95 = .ok (.invokestatic 61, 3) := by decide +kernel
theorem dX0_passMinutes_98 : decode cX0_passMinutes 98 = .ok (.putfield 103, 3) := by decide +kernel
theorem dX0_passMinutes_101 : decode cX0_passMinutes 101 = .ok (.aload_n 1, 1) := by decide +kernel
theorem dX0_passMinutes_102 : decode cX0_passMinutes 102 = .ok (.dup, 1) := by decide +kernel
theorem dX0_passMinutes_103 : decode cX0_passMinutes 103 = .ok (.getfield 112, 3) := by decide +kernel
theorem dX0_passMinutes_106 : decode cX0_passMinutes 106 = .ok (.iload 6, 2) := by decide +kernel
theorem dX0_passMinutes_108 : decode cX0_passMinutes 108 = .ok (.invokestatic 115, 3) := by decide +kernel
theorem dX0_passMinutes_111 : decode cX0_passMinutes 111 = .ok (.aload_n 1, 1) := by decide +kernel
theorem dX0_passMinutes_112 : decode cX0_passMinutes 112 = .ok (.getfield 112, 3) := by decide +kernel
theorem dX0_passMinutes_115 : decode cX0_passMinutes 115 = .ok (.isub, 1) := by decide +kernel
theorem dX0_passMinutes_116 : decode cX0_passMinutes 116 = .ok (.bipush 20, 2) := by decide +kernel
theorem dX0_passMinutes_118 : decode cX0_passMinutes 118 = .ok (.idiv, 1) := by decide +kernel
theorem dX0_passMinutes_119 : decode cX0_passMinutes 119 = .ok (.aload_n 1, 1) := by decide +kernel
theorem dX0_passMinutes_120 : decode cX0_passMinutes 120 = .ok (.getfield 88, 3) := by decide +kernel
theorem dX0_passMinutes_123 : decode cX0_passMinutes 123 = .ok (.ifCond .eq 7, 3) := by decide +kernel
theorem dX0_passMinutes_126 : decode cX0_passMinutes 126 = .ok (.iconst 2, 1) := by decide +kernel
theorem dX0_passMinutes_127 : decode cX0_passMinutes 127 = .ok (.goto 4, 3) := by decide +kernel
theorem dX0_passMinutes_130 : decode cX0_passMinutes 130 = .ok (.iconst 0, 1) := by decide +kernel
theorem dX0_passMinutes_131 : decode cX0_passMinutes 131 = .ok (.iadd, 1) := by decide +kernel
theorem dX0_passMinutes_132 : decode cX0_passMinutes 132 = .ok (.iload_n 3, 1) := by decide +kernel
theorem dX0_passMinutes_133 : decode cX0_passMinutes 133 = .ok (.ifCond .eq 7, 3) := by decide +kernel
theorem dX0_passMinutes_136 : decode cX0_passMinutes 136 = .ok (.iconst 1, 1) := by decide +kernel
theorem dX0_passMinutes_137 : decode cX0_passMinutes 137 = .ok (.goto 4, 3) := by decide +kernel
theorem dX0_passMinutes_140 : decode cX0_passMinutes 140 = .ok (.iconst 0, 1) := by decide +kernel
theorem dX0_passMinutes_141 : decode cX0_passMinutes 141 = .ok (.iadd, 1) := by decide +kernel
theorem dX0_passMinutes_142 : decode cX0_passMinutes 142 = .ok (.iadd, 1) := by decide +kernel
theorem dX0_passMinutes_143 : decode cX0_passMinutes 143 = .ok (.putfield 112, 3) := by decide +kernel
theorem dX0_passMinutes_146 : decode cX0_passMinutes 146 = .ok (.aload_n 1, 1) := by decide +kernel
theorem dX0_passMinutes_147 : decode cX0_passMinutes 147 = .ok (.dup, 1) := by decide +kernel
theorem dX0_passMinutes_148 : decode cX0_passMinutes 148 = .ok (.getfield 96, 3) := by decide +kernel
theorem dX0_passMinutes_151 : decode cX0_passMinutes 151 = .ok (.iconst 1, 1) := by decide +kernel
theorem dX0_passMinutes_152 : decode cX0_passMinutes 152 = .ok (.iadd, 1) := by decide +kernel
theorem dX0_passMinutes_153 : decode cX0_passMinutes 153 = .ok (.putfield 96, 3) := by decide +kernel
theorem dX0_passMinutes_156 : decode cX0_passMinutes 156 = .ok (.aload_n 1, 1) := by decide +kernel
theorem dX0_passMinutes_157 : decode cX0_passMinutes 157 = .ok (.getfield 96, 3) := by decide +kernel
theorem dX0_passMinutes_160 : decode cX0_passMinutes 160 = .ok (.sipush 1440, 3) := by decide +kernel
theorem dX0_passMinutes_163 : decode cX0_passMinutes 163 = .ok (.irem, 1) := by decide +kernel
theorem dX0_passMinutes_164 : decode cX0_passMinutes 164 = .ok (.ifCond .ne 18, 3) := by decide +kernel
theorem dX0_passMinutes_167 : decode cX0_passMinutes 167 = .ok (.aload_n 1, 1) := by decide +kernel
theorem dX0_passMinutes_168 : decode cX0_passMinutes 168 = .ok (.bipush 20, 2) := by decide +kernel
theorem dX0_passMinutes_170 : decode cX0_passMinutes 170 = .ok (.aload_n 1, 1) := by decide +kernel
theorem dX0_passMinutes_171 : decode cX0_passMinutes 171 = .ok (.getfield 106, 3) := by decide +kernel
theorem dX0_passMinutes_174 : decode cX0_passMinutes 174 = .ok (.iconst 1, 1) := by decide +kernel
theorem dX0_passMinutes_175 : decode cX0_passMinutes 175 = .ok (.isub, 1) := by decide +kernel
theorem dX0_passMinutes_176 : decode cX0_passMinutes 176 = .ok (.invokestatic 118, 3) := by decide +kernel
theorem dX0_passMinutes_179 : decode cX0_passMinutes 179 = .ok (.putfield 106, 3) := by decide +kernel
theorem dX0_passMinutes_182 : decode cX0_passMinutes 182 = .ok (.iinc 5 1, 3) := by decide +kernel
theorem dX0_passMinutes_185 : decode cX0_passMinutes 185 = .ok (.goto (-182), 3) := by decide +kernel
theorem dX0_passMinutes_188 : decode cX0_passMinutes 188 = .ok (.iconst 0, 1) := by decide +kernel
theorem dX0_passMinutes_189 : decode cX0_passMinutes 189 = .ok (.ireturn, 1) := by decide +kernel
theorem dX0_drive_0 : decode cX0_drive 0 = .ok (.aload_n 0, 1) := by decide +kernel
theorem dX0_drive_1 : decode cX0_drive 1 = .ok (.getfield 32, 3) := by decide +kernel
theorem dX0_drive_4 : decode cX0_drive 4 = .ok (.iload_n 2, 1) := by decide +kernel
theorem dX0_drive_5 : decode cX0_drive 5 = .ok (.iload_n 3, 1) := by decide +kernel
theorem dX0_drive_6 : decode cX0_drive 6 = .ok (.invokestatic 121, 3) := by decide +kernel
theorem dX0_drive_9 : decode cX0_drive 9 = .ok (.invokevirtual 126, 3) := by decide +kernel
theorem dX0_drive_12 : decode cX0_drive 12 = .ok (.iconst 0, 1) := by decide +kernel
theorem dX0_drive_13 : decode cX0_drive 13 = .ok (.istore 4, 2) := by decide +kernel
theorem dX0_drive_15 : decode cX0_drive 15 = .ok (.iload 4, 2) := by decide +kernel
theorem dX0_drive_17 : decode cX0_drive 17 = .ok (.sipush 576, 3) := by decide +kernel
theorem dX0_drive_20 : decode cX0_drive 20 = .ok (.if_icmp .ge 76, 3) := by decide +kernel
theorem dX0_drive_23 : decode cX0_drive 23 = .ok (.aload_n 1, 1) := by decide +kernel
theorem dX0_drive_24 : decode cX0_drive 24 = .ok (.getfield 132, 3) := by decide +kernel
theorem dX0_drive_27 : decode cX0_drive 27 = .ok (.iload_n 2, 1) := by decide +kernel
theorem dX0_drive_28 : decode cX0_drive 28 = .ok (.if_icmp .ne 11, 3) := by decide +kernel
theorem dX0_drive_31 : decode cX0_drive 31 = .ok (.aload_n 1, 1) := by decide +kernel
theorem dX0_drive_32 : decode cX0_drive 32 = .ok (.getfield 135, 3) := by decide +kernel
theorem dX0_drive_35 : decode cX0_drive 35 = .ok (.iload_n 3, 1) := by decide +kernel
theorem dX0_drive_36 : decode cX0_drive 36 = .ok (.if_icmp .eq 60, 3) := by decide +kernel
theorem dX0_drive_39 : decode cX0_drive 39 = .ok (.aload_n 0, 1) := by decide +kernel
theorem dX0_drive_40 : decode cX0_drive 40 = .ok (.getfield 32, 3) := by decide +kernel
theorem dX0_drive_43 : decode cX0_drive 43 = .ok (.aload_n 1, 1) := by decide +kernel
theorem dX0_drive_44 : decode cX0_drive 44 = .ok (.getfield 132, 3) := by decide +kernel
theorem dX0_drive_47 : decode cX0_drive 47 = .ok (.aload_n 1, 1) := by decide +kernel
theorem dX0_drive_48 : decode cX0_drive 48 = .ok (.getfield 135, 3) := by decide +kernel
theorem dX0_drive_51 : decode cX0_drive 51 = .ok (.invokestatic 121, 3) := by decide +kernel
theorem dX0_drive_54 : decode cX0_drive 54 = .ok (.invokevirtual 138, 3) := by decide +kernel
theorem dX0_drive_57 : decode cX0_drive 57 = .ok (.istore 5, 2) := by decide +kernel
theorem dX0_drive_59 : decode cX0_drive 59 = .ok (.iload 5, 2) := by decide +kernel
theorem dX0_drive_61 : decode cX0_drive 61 = .ok (.ifCond .lt 10, 3) := by decide +kernel
theorem dX0_drive_64 : decode cX0_drive 64 = .ok (.iload 5, 2) := by decide +kernel
theorem dX0_drive_66 : decode cX0_drive 66 = .ok (.bipush 8, 2) := by decide +kernel
theorem dX0_drive_68 : decode cX0_drive 68 = .ok (.if_icmp .lt 5, 3) := by decide +kernel
theorem dX0_drive_71 : decode cX0_drive 71 = .ok (.iconst 1, 1) := by decide +kernel
theorem dX0_drive_72 : decode cX0_drive 72 = .ok (.ireturn, 1) := by decide +kernel
theorem dX0_drive_73 : decode cX0_drive 73 = .ok (.aload_n 0, 1) := by decide +kernel
theorem dX0_drive_74 : decode cX0_drive 74 = .ok (.aload_n 1, 1) := by decide +kernel
theorem dX0_drive_75 : decode cX0_drive 75 = .ok (.iload 5, 2) := by decide +kernel
theorem dX0_drive_77 : decode cX0_drive 77 = .ok (.invokevirtual 141, 3) := by decide +kernel
theorem dX0_drive_80 : decode cX0_drive 80 = .ok (.istore 6, 2) := by decide +kernel
theorem dX0_drive_82 : decode cX0_drive 82 = .ok (.iload 6, 2) := by decide +kernel
theorem dX0_drive_84 : decode cX0_drive 84 = .ok (.ifCond .eq 6, 3) := by decide +kernel
theorem dX0_drive_87 : decode cX0_drive 87 = .ok (.iload 6, 2) := by decide +kernel
theorem dX0_drive_89 : decode cX0_drive 89 = .ok (.ireturn, 1) := by decide +kernel
theorem dX0_drive_90 : decode cX0_drive 90 = .ok (.iinc 4 1, 3) := by decide +kernel
theorem dX0_drive_93 : decode cX0_drive 93 = .ok (.goto (-78), 3) := by decide +kernel
theorem dX0_drive_96 : decode cX0_drive 96 = .ok (.iconst 0, 1) := by decide +kernel
theorem dX0_drive_97 : decode cX0_drive 97 = .ok (.ireturn, 1) := by decide +kernel
theorem dX0_step_0 : decode cX0_step 0 = .ok (.aload_n 1, 1) := by decide +kernel
theorem dX0_step_1 : decode cX0_step 1 = .ok (.getfield 112, 3) := by decide +kernel
theorem dX0_step_4 : decode cX0_step 4 = .ok (.bipush (-50), 2) := by decide +kernel
theorem dX0_step_6 : decode cX0_step 6 = .ok (.if_icmp .ge 5, 3) := by decide +kernel
theorem dX0_step_9 : decode cX0_step 9 = .ok (.iconst 3, 1) := by decide +kernel
theorem dX0_step_10 : decode cX0_step 10 = .ok (.ireturn, 1) := by decide +kernel
theorem dX0_step_11 : decode cX0_step 11 = .ok (.aload_n 1, 1) := by decide +kernel
theorem dX0_step_12 : decode cX0_step 12 = .ok (.getfield 132, 3) := by decide +kernel
theorem dX0_step_15 : decode cX0_step 15 = .ok (.aload_n 1, 1) := by decide +kernel
theorem dX0_step_16 : decode cX0_step 16 = .ok (.getfield 135, 3) := by decide +kernel
theorem dX0_step_19 : decode cX0_step 19 = .ok (.invokestatic 121, 3) := by decide +kernel
theorem dX0_step_22 : decode cX0_step 22 = .ok (.istore_n 3, 1) := by decide +kernel
theorem dX0_step_23 : decode cX0_step 23 = .ok (.aload_n 0, 1) := by decide +kernel
theorem dX0_step_24 : decode cX0_step 24 = .ok (.aload_n 1, 1) := by decide +kernel
theorem dX0_step_25 : decode cX0_step 25 = .ok (.aload_n 0, 1) := by decide +kernel
theorem dX0_step_26 : decode cX0_step 26 = .ok (.getfield 28, 3) := by decide +kernel
theorem dX0_step_29 : decode cX0_step 29 = .ok (.iload_n 3, 1) := by decide +kernel
theorem dX0_step_30 : decode cX0_step 30 = .ok (.iload_n 2, 1) := by decide +kernel
theorem dX0_step_31 : decode cX0_step 31 = .ok (.invokevirtual 144, 3) := by decide +kernel
theorem dX0_step_34 : decode cX0_step 34 = .ok (.iconst 1, 1) := by decide +kernel
theorem dX0_step_35 : decode cX0_step 35 = .ok (.isub, 1) := by decide +kernel
theorem dX0_step_36 : decode cX0_step 36 = .ok (.iconst 1, 1) := by decide +kernel
theorem dX0_step_37 : decode cX0_step 37 = .ok (.iconst 0, 1) := by decide +kernel
theorem dX0_step_38 : decode cX0_step 38 = .ok (.invokevirtual 147, 3) := by decide +kernel
theorem dX0_step_41 : decode cX0_step 41 = .ok (.istore 4, 2) := by decide +kernel
theorem dX0_step_43 : decode cX0_step 43 = .ok (.iload 4, 2) := by decide +kernel
theorem dX0_step_45 : decode cX0_step 45 = .ok (.ifCond .ne 21, 3) := by decide +kernel
theorem dX0_step_48 : decode cX0_step 48 = .ok (.aload_n 0, 1) := by decide +kernel
theorem dX0_step_49 : decode cX0_step 49 = .ok (.aload_n 1, 1) := by decide +kernel
theorem dX0_step_50 : decode cX0_step 50 = .ok (.iconst 1, 1) := by decide +kernel
theorem dX0_step_51 : decode cX0_step 51 = .ok (.iconst 1, 1) := by decide +kernel
theorem dX0_step_52 : decode cX0_step 52 = .ok (.aload_n 0, 1) := by decide +kernel
theorem dX0_step_53 : decode cX0_step 53 = .ok (.getfield 28, 3) := by decide +kernel
theorem dX0_step_56 : decode cX0_step 56 = .ok (.iload_n 3, 1) := by decide +kernel
theorem dX0_step_57 : decode cX0_step 57 = .ok (.iload_n 2, 1) := by decide +kernel
theorem dX0_step_58 : decode cX0_step 58 = .ok (.invokevirtual 151, 3) := by decide +kernel
theorem dX0_step_61 : decode cX0_step 61 = .ok (.invokevirtual 147, 3) := by decide +kernel
theorem dX0_step_64 : decode cX0_step 64 = .ok (.istore 4, 2) := by decide +kernel
theorem dX0_step_66 : decode cX0_step 66 = .ok (.aload_n 1, 1) := by decide +kernel
theorem dX0_step_67 : decode cX0_step 67 = .ok (.dup, 1) := by decide +kernel
theorem dX0_step_68 : decode cX0_step 68 = .ok (.getfield 132, 3) := by decide +kernel
theorem dX0_step_71 : decode cX0_step 71 = .ok (.getstatic 154, 3) := by decide +kernel
theorem dX0_step_74 : decode cX0_step 74 = .ok (.iload_n 2, 1) := by decide +kernel
theorem dX0_step_75 : decode cX0_step 75 = .ok (.iaload, 1) := by decide +kernel
theorem dX0_step_76 : decode cX0_step 76 = .ok (.iadd, 1) := by decide +kernel
theorem dX0_step_77 : decode cX0_step 77 = .ok (.putfield 132, 3) := by decide +kernel
theorem dX0_step_80 : decode cX0_step 80 = .ok (.aload_n 1, 1) := by decide +kernel
theorem dX0_step_81 : decode cX0_step 81 = .ok (.dup, 1) := by decide +kernel
theorem dX0_step_82 : decode cX0_step 82 = .ok (.getfield 135, 3) := by decide +kernel
theorem dX0_step_85 : decode cX0_step 85 = .ok (.getstatic 158, 3) := by decide +kernel
theorem dX0_step_88 : decode cX0_step 88 = .ok (.iload_n 2, 1) := by decide +kernel
theorem dX0_step_89 : decode cX0_step 89 = .ok (.iaload, 1) := by decide +kernel
theorem dX0_step_90 : decode cX0_step 90 = .ok (.iadd, 1) := by decide +kernel
theorem dX0_step_91 : decode cX0_step 91 = .ok (.putfield 135, 3) := by decide +kernel
theorem dX0_step_94 : decode cX0_step 94 = .ok (.iload 4, 2) := by decide +kernel
theorem dX0_step_96 : decode cX0_step 96 = .ok (.ireturn, 1) := by decide +kernel
theorem dX0_takeImage_0 : decode cX0_takeImage 0 = .ok (.aload_n 0, 1) := by decide +kernel
theorem dX0_takeImage_1 : decode cX0_takeImage 1 = .ok (.getfield 36, 3) := by decide +kernel
theorem dX0_takeImage_4 : decode cX0_takeImage 4 = .ok (.iload_n 2, 1) := by decide +kernel
theorem dX0_takeImage_5 : decode cX0_takeImage 5 = .ok (.invokevirtual 161, 3) := by decide +kernel
theorem dX0_takeImage_8 : decode cX0_takeImage 8 = .ok (.istore 4, 2) := by decide +kernel
theorem dX0_takeImage_10 : decode cX0_takeImage 10 = .ok (.aload_n 0, 1) := by decide +kernel
theorem dX0_takeImage_11 : decode cX0_takeImage 11 = .ok (.getfield 36, 3) := by decide +kernel
theorem dX0_takeImage_14 : decode cX0_takeImage 14 = .ok (.iload_n 2, 1) := by decide +kernel
theorem dX0_takeImage_15 : decode cX0_takeImage 15 = .ok (.invokevirtual 166, 3) := by decide +kernel
theorem dX0_takeImage_18 : decode cX0_takeImage 18 = .ok (.istore 5, 2) := by decide +kernel
theorem dX0_takeImage_20 : decode cX0_takeImage 20 = .ok (.aload_n 1, 1) := by decide +kernel
theorem dX0_takeImage_21 : decode cX0_takeImage 21 = .ok (.getfield 132, 3) := by decide +kernel
theorem dX0_takeImage_24 : decode cX0_takeImage 24 = .ok (.aload_n 1, 1) := by decide +kernel
theorem dX0_takeImage_25 : decode cX0_takeImage 25 = .ok (.getfield 135, 3) := by decide +kernel
theorem dX0_takeImage_28 : decode cX0_takeImage 28 = .ok (.iload 4, 2) := by decide +kernel
theorem dX0_takeImage_30 : decode cX0_takeImage 30 = .ok (.iload 5, 2) := by decide +kernel
theorem dX0_takeImage_32 : decode cX0_takeImage 32 = .ok (.invokestatic 169, 3) := by decide +kernel
theorem dX0_takeImage_35 : decode cX0_takeImage 35 = .ok (.bipush 6, 2) := by decide +kernel
theorem dX0_takeImage_37 : decode cX0_takeImage 37 = .ok (.if_icmp .gt 25, 3) := by decide +kernel
theorem dX0_takeImage_40 : decode cX0_takeImage 40 = .ok (.aload_n 0, 1) := by decide +kernel
theorem dX0_takeImage_41 : decode cX0_takeImage 41 = .ok (.getfield 28, 3) := by decide +kernel
theorem dX0_takeImage_44 : decode cX0_takeImage 44 = .ok (.aload_n 1, 1) := by decide +kernel
theorem dX0_takeImage_45 : decode cX0_takeImage 45 = .ok (.getfield 132, 3) := by decide +kernel
theorem dX0_takeImage_48 : decode cX0_takeImage 48 = .ok (.aload_n 1, 1) := by decide +kernel
theorem dX0_takeImage_49 : decode cX0_takeImage 49 = .ok (.getfield 135, 3) := by decide +kernel
theorem dX0_takeImage_52 : decode cX0_takeImage 52 = .ok (.iload 4, 2) := by decide +kernel
theorem dX0_takeImage_54 : decode cX0_takeImage 54 = .ok (.iload 5, 2) := by decide +kernel
theorem dX0_takeImage_56 : decode cX0_takeImage 56 = .ok (.invokevirtual 173, 3) := by decide +kernel
theorem dX0_takeImage_59 : decode cX0_takeImage 59 = .ok (.ifCond .ne 5, 3) := by decide +kernel
theorem dX0_takeImage_62 : decode cX0_takeImage 62 = .ok (.iconst 5, 1) := by decide +kernel
theorem dX0_takeImage_63 : decode cX0_takeImage 63 = .ok (.ireturn, 1) := by decide +kernel
theorem dX0_takeImage_64 : decode cX0_takeImage 64 = .ok (.aload_n 0, 1) := by decide +kernel
theorem dX0_takeImage_65 : decode cX0_takeImage 65 = .ok (.aload_n 1, 1) := by decide +kernel
theorem dX0_takeImage_66 : decode cX0_takeImage 66 = .ok (.bipush 40, 2) := by decide +kernel
theorem dX0_takeImage_68 : decode cX0_takeImage 68 = .ok (.bipush 6, 2) := by decide +kernel
theorem dX0_takeImage_70 : decode cX0_takeImage 70 = .ok (.iconst 3, 1) := by decide +kernel
theorem dX0_takeImage_71 : decode cX0_takeImage 71 = .ok (.invokevirtual 177, 3) := by decide +kernel
theorem dX0_takeImage_74 : decode cX0_takeImage 74 = .ok (.istore 6, 2) := by decide +kernel
theorem dX0_takeImage_76 : decode cX0_takeImage 76 = .ok (.iload 6, 2) := by decide +kernel
theorem dX0_takeImage_78 : decode cX0_takeImage 78 = .ok (.ifCond .ne 26, 3) := by decide +kernel
theorem dX0_takeImage_81 : decode cX0_takeImage 81 = .ok (.aload_n 1, 1) := by decide +kernel
theorem dX0_takeImage_82 : decode cX0_takeImage 82 = .ok (.iload_n 2, 1) := by decide +kernel
theorem dX0_takeImage_83 : decode cX0_takeImage 83 = .ok (.bipush 40, 2) := by decide +kernel
theorem dX0_takeImage_85 : decode cX0_takeImage 85 = .ok (.iload_n 3, 1) := by decide +kernel
theorem dX0_takeImage_86 : decode cX0_takeImage 86 = .ok (.aload_n 1, 1) := by decide +kernel
theorem dX0_takeImage_87 : decode cX0_takeImage 87 = .ok (.getfield 132, 3) := by decide +kernel
theorem dX0_takeImage_90 : decode cX0_takeImage 90 = .ok (.aload_n 1, 1) := by decide +kernel
theorem dX0_takeImage_91 : decode cX0_takeImage 91 = .ok (.getfield 135, 3) := by decide +kernel
theorem dX0_takeImage_94 : decode cX0_takeImage 94 = .ok (.iload 4, 2) := by decide +kernel
theorem dX0_takeImage_96 : decode cX0_takeImage 96 = .ok (.iload 5, 2) := by decide +kernel
theorem dX0_takeImage_98 : decode cX0_takeImage 98 = .ok (.invokestatic 180, 3) := by decide +kernel
theorem dX0_takeImage_101 : decode cX0_takeImage 101 = .ok (.invokevirtual 183, 3) := by decide +kernel
theorem dX0_takeImage_104 : decode cX0_takeImage 104 = .ok (.iload 6, 2) := by decide +kernel
theorem dX0_takeImage_106 : decode cX0_takeImage 106 = .ok (.ireturn, 1) := by decide +kernel
theorem dX0_takeTouch_0 : decode cX0_takeTouch 0 = .ok (.aload_n 1, 1) := by decide +kernel
theorem dX0_takeTouch_1 : decode cX0_takeTouch 1 = .ok (.getfield 132, 3) := by decide +kernel
theorem dX0_takeTouch_4 : decode cX0_takeTouch 4 = .ok (.aload_n 1, 1) := by decide +kernel
theorem dX0_takeTouch_5 : decode cX0_takeTouch 5 = .ok (.getfield 135, 3) := by decide +kernel
theorem dX0_takeTouch_8 : decode cX0_takeTouch 8 = .ok (.aload_n 0, 1) := by decide +kernel
theorem dX0_takeTouch_9 : decode cX0_takeTouch 9 = .ok (.getfield 36, 3) := by decide +kernel
theorem dX0_takeTouch_12 : decode cX0_takeTouch 12 = .ok (.iload_n 2, 1) := by decide +kernel
theorem dX0_takeTouch_13 : decode cX0_takeTouch 13 = .ok (.invokevirtual 161, 3) := by decide +kernel
theorem dX0_takeTouch_16 : decode cX0_takeTouch 16 = .ok (.aload_n 0, 1) := by decide +kernel
theorem dX0_takeTouch_17 : decode cX0_takeTouch 17 = .ok (.getfield 36, 3) := by decide +kernel
theorem dX0_takeTouch_20 : decode cX0_takeTouch 20 = .ok (.iload_n 2, 1) := by decide +kernel
theorem dX0_takeTouch_21 : decode cX0_takeTouch 21 = .ok (.invokevirtual 166, 3) := by decide +kernel
theorem dX0_takeTouch_24 : decode cX0_takeTouch 24 = .ok (.invokestatic 169, 3) := by decide +kernel
theorem dX0_takeTouch_27 : decode cX0_takeTouch 27 = .ok (.iconst 1, 1) := by decide +kernel
theorem dX0_takeTouch_28 : decode cX0_takeTouch 28 = .ok (.if_icmp .le 5, 3) := by decide +kernel
theorem dX0_takeTouch_31 : decode cX0_takeTouch 31 = .ok (.iconst 5, 1) := by decide +kernel
theorem dX0_takeTouch_32 : decode cX0_takeTouch 32 = .ok (.ireturn, 1) := by decide +kernel
theorem dX0_takeTouch_33 : decode cX0_takeTouch 33 = .ok (.aload_n 0, 1) := by decide +kernel
theorem dX0_takeTouch_34 : decode cX0_takeTouch 34 = .ok (.aload_n 1, 1) := by decide +kernel
theorem dX0_takeTouch_35 : decode cX0_takeTouch 35 = .ok (.bipush 90, 2) := by decide +kernel
theorem dX0_takeTouch_37 : decode cX0_takeTouch 37 = .ok (.bipush 25, 2) := by decide +kernel
theorem dX0_takeTouch_39 : decode cX0_takeTouch 39 = .ok (.iconst 5, 1) := by decide +kernel
theorem dX0_takeTouch_40 : decode cX0_takeTouch 40 = .ok (.invokevirtual 177, 3) := by decide +kernel
theorem dX0_takeTouch_43 : decode cX0_takeTouch 43 = .ok (.istore 4, 2) := by decide +kernel
theorem dX0_takeTouch_45 : decode cX0_takeTouch 45 = .ok (.iload 4, 2) := by decide +kernel
theorem dX0_takeTouch_47 : decode cX0_takeTouch 47 = .ok (.ifCond .ne 13, 3) := by decide +kernel
theorem dX0_takeTouch_50 : decode cX0_takeTouch 50 = .ok (.aload_n 1, 1) := by decide +kernel
theorem dX0_takeTouch_51 : decode cX0_takeTouch 51 = .ok (.iload_n 2, 1) := by decide +kernel
theorem dX0_takeTouch_52 : decode cX0_takeTouch 52 = .ok (.bipush 90, 2) := by decide +kernel
theorem dX0_takeTouch_54 : decode cX0_takeTouch 54 = .ok (.iload_n 3, 1) := by decide +kernel
theorem dX0_takeTouch_55 : decode cX0_takeTouch 55 = .ok (.bipush 9, 2) := by decide +kernel
theorem dX0_takeTouch_57 : decode cX0_takeTouch 57 = .ok (.invokevirtual 183, 3) := by decide +kernel
theorem dX0_takeTouch_60 : decode cX0_takeTouch 60 = .ok (.iload 4, 2) := by decide +kernel
theorem dX0_takeTouch_62 : decode cX0_takeTouch 62 = .ok (.ireturn, 1) := by decide +kernel
theorem dX0_useTool_0 : decode cX0_useTool 0 = .ok (.aload_n 1, 1) := by decide +kernel
theorem dX0_useTool_1 : decode cX0_useTool 1 = .ok (.getfield 112, 3) := by decide +kernel
theorem dX0_useTool_4 : decode cX0_useTool 4 = .ok (.bipush (-40), 2) := by decide +kernel
theorem dX0_useTool_6 : decode cX0_useTool 6 = .ok (.if_icmp .ge 5, 3) := by decide +kernel
theorem dX0_useTool_9 : decode cX0_useTool 9 = .ok (.iconst 3, 1) := by decide +kernel
theorem dX0_useTool_10 : decode cX0_useTool 10 = .ok (.ireturn, 1) := by decide +kernel
theorem dX0_useTool_11 : decode cX0_useTool 11 = .ok (.aload_n 1, 1) := by decide +kernel
theorem dX0_useTool_12 : decode cX0_useTool 12 = .ok (.invokevirtual 187, 3) := by decide +kernel
theorem dX0_useTool_15 : decode cX0_useTool 15 = .ok (.ifCond .ne 16, 3) := by decide +kernel
theorem dX0_useTool_18 : decode cX0_useTool 18 = .ok (.aload_n 1, 1) := by decide +kernel
theorem dX0_useTool_19 : decode cX0_useTool 19 = .ok (.invokevirtual 191, 3) := by decide +kernel
theorem dX0_useTool_22 : decode cX0_useTool 22 = .ok (.iload_n 2, 1) := by decide +kernel
theorem dX0_useTool_23 : decode cX0_useTool 23 = .ok (.iadd, 1) := by decide +kernel
theorem dX0_useTool_24 : decode cX0_useTool 24 = .ok (.aload_n 0, 1) := by decide +kernel
theorem dX0_useTool_25 : decode cX0_useTool 25 = .ok (.getfield 22, 3) := by decide +kernel
theorem dX0_useTool_28 : decode cX0_useTool 28 = .ok (.if_icmp .le 5, 3) := by decide +kernel
theorem dX0_useTool_31 : decode cX0_useTool 31 = .ok (.iconst 4, 1) := by decide +kernel
theorem dX0_useTool_32 : decode cX0_useTool 32 = .ok (.ireturn, 1) := by decide +kernel
theorem dX0_useTool_33 : decode cX0_useTool 33 = .ok (.aload_n 0, 1) := by decide +kernel
theorem dX0_useTool_34 : decode cX0_useTool 34 = .ok (.aload_n 1, 1) := by decide +kernel
theorem dX0_useTool_35 : decode cX0_useTool 35 = .ok (.iload_n 3, 1) := by decide +kernel
theorem dX0_useTool_36 : decode cX0_useTool 36 = .ok (.iconst 1, 1) := by decide +kernel
theorem dX0_useTool_37 : decode cX0_useTool 37 = .ok (.iload 4, 2) := by decide +kernel
theorem dX0_useTool_39 : decode cX0_useTool 39 = .ok (.invokevirtual 147, 3) := by decide +kernel
theorem dX0_useTool_42 : decode cX0_useTool 42 = .ok (.ireturn, 1) := by decide +kernel
theorem dX0_transmit_0 : decode cX0_transmit 0 = .ok (.aload_n 0, 1) := by decide +kernel
theorem dX0_transmit_1 : decode cX0_transmit 1 = .ok (.getfield 40, 3) := by decide +kernel
theorem dX0_transmit_4 : decode cX0_transmit 4 = .ok (.aload_n 1, 1) := by decide +kernel
theorem dX0_transmit_5 : decode cX0_transmit 5 = .ok (.getfield 96, 3) := by decide +kernel
theorem dX0_transmit_8 : decode cX0_transmit 8 = .ok (.sipush 1440, 3) := by decide +kernel
theorem dX0_transmit_11 : decode cX0_transmit 11 = .ok (.irem, 1) := by decide +kernel
theorem dX0_transmit_12 : decode cX0_transmit 12 = .ok (.invokevirtual 195, 3) := by decide +kernel
theorem dX0_transmit_15 : decode cX0_transmit 15 = .ok (.ifCond .ne 6, 3) := by decide +kernel
theorem dX0_transmit_18 : decode cX0_transmit 18 = .ok (.bipush 6, 2) := by decide +kernel
theorem dX0_transmit_20 : decode cX0_transmit 20 = .ok (.ireturn, 1) := by decide +kernel
theorem dX0_transmit_21 : decode cX0_transmit 21 = .ok (.iconst 0, 1) := by decide +kernel
theorem dX0_transmit_22 : decode cX0_transmit 22 = .ok (.istore_n 3, 1) := by decide +kernel
theorem dX0_transmit_23 : decode cX0_transmit 23 = .ok (.iload_n 3, 1) := by decide +kernel
theorem dX0_transmit_24 : decode cX0_transmit 24 = .ok (.iload_n 2, 1) := by decide +kernel
theorem dX0_transmit_25 : decode cX0_transmit 25 = .ok (.if_icmp .ge 53, 3) := by decide +kernel
theorem dX0_transmit_28 : decode cX0_transmit 28 = .ok (.aload_n 1, 1) := by decide +kernel
theorem dX0_transmit_29 : decode cX0_transmit 29 = .ok (.getfield 200, 3) := by decide +kernel
theorem dX0_transmit_32 : decode cX0_transmit 32 = .ok (.ifCond .le 46, 3) := by decide +kernel
theorem dX0_transmit_35 : decode cX0_transmit 35 = .ok (.aload_n 1, 1) := by decide +kernel
theorem dX0_transmit_36 : decode cX0_transmit 36 = .ok (.aload_n 0, 1) := by decide +kernel
theorem dX0_transmit_37 : decode cX0_transmit 37 = .ok (.getfield 40, 3) := by decide +kernel
theorem dX0_transmit_40 : decode cX0_transmit 40 = .ok (.aload_n 1, 1) := by decide +kernel
theorem dX0_transmit_41 : decode cX0_transmit 41 = .ok (.getfield 96, 3) := by decide +kernel
theorem dX0_transmit_44 : decode cX0_transmit 44 = .ok (.sipush 1440, 3) := by decide +kernel
theorem dX0_transmit_47 : decode cX0_transmit 47 = .ok (.irem, 1) := by decide +kernel
theorem dX0_transmit_48 : decode cX0_transmit 48 = .ok (.invokevirtual 195, 3) := by decide +kernel
theorem dX0_transmit_51 : decode cX0_transmit 51 = .ok (.invokevirtual 203, 3) := by decide +kernel
theorem dX0_transmit_54 : decode cX0_transmit 54 = .ok (.aload_n 0, 1) := by decide +kernel
theorem dX0_transmit_55 : decode cX0_transmit 55 = .ok (.aload_n 1, 1) := by decide +kernel
theorem dX0_transmit_56 : decode cX0_transmit 56 = .ok (.iconst 1, 1) := by decide +kernel
theorem dX0_transmit_57 : decode cX0_transmit 57 = .ok (.iconst 1, 1) := by decide +kernel
theorem dX0_transmit_58 : decode cX0_transmit 58 = .ok (.iconst 4, 1) := by decide +kernel
theorem dX0_transmit_59 : decode cX0_transmit 59 = .ok (.invokevirtual 147, 3) := by decide +kernel
theorem dX0_transmit_62 : decode cX0_transmit 62 = .ok (.istore 4, 2) := by decide +kernel
theorem dX0_transmit_64 : decode cX0_transmit 64 = .ok (.iload 4, 2) := by decide +kernel
theorem dX0_transmit_66 : decode cX0_transmit 66 = .ok (.ifCond .eq 6, 3) := by decide +kernel
theorem dX0_transmit_69 : decode cX0_transmit 69 = .ok (.iload 4, 2) := by decide +kernel
theorem dX0_transmit_71 : decode cX0_transmit 71 = .ok (.ireturn, 1) := by decide +kernel
theorem dX0_transmit_72 : decode cX0_transmit 72 = .ok (.iinc 3 1, 3) := by decide +kernel
theorem dX0_transmit_75 : decode cX0_transmit 75 = .ok (.goto (-52), 3) := by decide +kernel
theorem dX0_transmit_78 : decode cX0_transmit 78 = .ok (.iconst 0, 1) := by decide +kernel
theorem dX0_transmit_79 : decode cX0_transmit 79 = .ok (.ireturn, 1) := by decide +kernel
theorem dX0_rest_0 : decode cX0_rest 0 = .ok (.iconst 1, 1) := by decide +kernel
theorem dX0_rest_1 : decode cX0_rest 1 = .ok (.iload_n 2, 1) := by decide +kernel
theorem dX0_rest_2 : decode cX0_rest 2 = .ok (.aload_n 1, 1) := by decide +kernel
theorem dX0_rest_3 : decode cX0_rest 3 = .ok (.getfield 96, 3) := by decide +kernel
theorem dX0_rest_6 : decode cX0_rest 6 = .ok (.isub, 1) := by decide +kernel
theorem dX0_rest_7 : decode cX0_rest 7 = .ok (.iconst 1, 1) := by decide +kernel
theorem dX0_rest_8 : decode cX0_rest 8 = .ok (.isub, 1) := by decide +kernel
theorem dX0_rest_9 : decode cX0_rest 9 = .ok (.sipush 1440, 3) := by decide +kernel
theorem dX0_rest_12 : decode cX0_rest 12 = .ok (.invokestatic 206, 3) := by decide +kernel
theorem dX0_rest_15 : decode cX0_rest 15 = .ok (.iadd, 1) := by decide +kernel
theorem dX0_rest_16 : decode cX0_rest 16 = .ok (.istore 4, 2) := by decide +kernel
theorem dX0_rest_18 : decode cX0_rest 18 = .ok (.aload_n 0, 1) := by decide +kernel
theorem dX0_rest_19 : decode cX0_rest 19 = .ok (.aload_n 1, 1) := by decide +kernel
theorem dX0_rest_20 : decode cX0_rest 20 = .ok (.iload 4, 2) := by decide +kernel
theorem dX0_rest_22 : decode cX0_rest 22 = .ok (.iload_n 3, 1) := by decide +kernel
theorem dX0_rest_23 : decode cX0_rest 23 = .ok (.iconst 0, 1) := by decide +kernel
theorem dX0_rest_24 : decode cX0_rest 24 = .ok (.invokevirtual 147, 3) := by decide +kernel
theorem dX0_rest_27 : decode cX0_rest 27 = .ok (.ireturn, 1) := by decide +kernel
theorem dX0_clean_0 : decode cX0_clean 0 = .ok (.aload_n 0, 1) := by decide +kernel
theorem dX0_clean_1 : decode cX0_clean 1 = .ok (.aload_n 1, 1) := by decide +kernel
theorem dX0_clean_2 : decode cX0_clean 2 = .ok (.bipush 15, 2) := by decide +kernel
theorem dX0_clean_4 : decode cX0_clean 4 = .ok (.iconst 1, 1) := by decide +kernel
theorem dX0_clean_5 : decode cX0_clean 5 = .ok (.bipush 6, 2) := by decide +kernel
theorem dX0_clean_7 : decode cX0_clean 7 = .ok (.invokevirtual 147, 3) := by decide +kernel
theorem dX0_clean_10 : decode cX0_clean 10 = .ok (.istore_n 2, 1) := by decide +kernel
theorem dX0_clean_11 : decode cX0_clean 11 = .ok (.iload_n 2, 1) := by decide +kernel
theorem dX0_clean_12 : decode cX0_clean 12 = .ok (.ifCond .ne 19, 3) := by decide +kernel
theorem dX0_clean_15 : decode cX0_clean 15 = .ok (.aload_n 1, 1) := by decide +kernel
theorem dX0_clean_16 : decode cX0_clean 16 = .ok (.bipush 100, 2) := by decide +kernel
theorem dX0_clean_18 : decode cX0_clean 18 = .ok (.aload_n 1, 1) := by decide +kernel
theorem dX0_clean_19 : decode cX0_clean 19 = .ok (.getfield 106, 3) := by decide +kernel
theorem dX0_clean_22 : decode cX0_clean 22 = .ok (.bipush 10, 2) := by decide +kernel
theorem dX0_clean_24 : decode cX0_clean 24 = .ok (.iadd, 1) := by decide +kernel
theorem dX0_clean_25 : decode cX0_clean 25 = .ok (.invokestatic 61, 3) := by decide +kernel
theorem dX0_clean_28 : decode cX0_clean 28 = .ok (.putfield 106, 3) := by decide +kernel
theorem dX0_clean_31 : decode cX0_clean 31 = .ok (.iload_n 2, 1) := by decide +kernel
theorem dX0_clean_32 : decode cX0_clean 32 = .ok (.ireturn, 1) := by decide +kernel
theorem dX1_init_0 : decode cX1_init 0 = .ok (.aload_n 0, 1) := by decide +kernel
theorem dX1_init_1 : decode cX1_init 1 = .ok (.invokespecial 3, 3) := by decide +kernel
theorem dX1_init_4 : decode cX1_init 4 = .ok (.aload_n 0, 1) := by decide +kernel
theorem dX1_init_5 : decode cX1_init 5 = .ok (.sipush 576, 3) := by decide +kernel
theorem dX1_init_8 : decode cX1_init 8 = .ok (.newarray .int, 2) := by decide +kernel
theorem dX1_init_10 : decode cX1_init 10 = .ok (.putfield 9, 3) := by decide +kernel
theorem dX1_init_13 : decode cX1_init 13 = .ok (.aload_n 0, 1) := by decide +kernel
theorem dX1_init_14 : decode cX1_init 14 = .ok (.sipush 576, 3) := by decide +kernel
theorem dX1_init_17 : decode cX1_init 17 = .ok (.newarray .int, 2) := by decide +kernel
theorem dX1_init_19 : decode cX1_init 19 = .ok (.putfield 15, 3) := by decide +kernel
theorem dX1_init_22 : decode cX1_init 22 = .ok (.aload_n 0, 1) := by decide +kernel
theorem dX1_init_23 : decode cX1_init 23 = .ok (.sipush 576, 3) := by decide +kernel
theorem dX1_init_26 : decode cX1_init 26 = .ok (.newarray .boolean, 2) := by decide +kernel
theorem dX1_init_28 : decode cX1_init 28 = .ok (.putfield 18, 3) := by decide +kernel
theorem dX1_init_31 : decode cX1_init 31 = .ok (.aload_n 0, 1) := by decide +kernel
theorem dX1_init_32 : decode cX1_init 32 = .ok (.sipush 4608, 3) := by decide +kernel
theorem dX1_init_35 : decode cX1_init 35 = .ok (.newarray .int, 2) := by decide +kernel
theorem dX1_init_37 : decode cX1_init 37 = .ok (.putfield 22, 3) := by decide +kernel
theorem dX1_init_40 : decode cX1_init 40 = .ok (.aload_n 0, 1) := by decide +kernel
theorem dX1_init_41 : decode cX1_init 41 = .ok (.bipush 12, 2) := by decide +kernel
theorem dX1_init_43 : decode cX1_init 43 = .ok (.putfield 25, 3) := by decide +kernel
theorem dX1_init_46 : decode cX1_init 46 = .ok (.aload_n 0, 1) := by decide +kernel
theorem dX1_init_47 : decode cX1_init 47 = .ok (.invokevirtual 29, 3) := by decide +kernel
theorem dX1_init_50 : decode cX1_init 50 = .ok (.return_, 1) := by decide +kernel
theorem dX1_isPlace_0 : decode cX1_isPlace 0 = .ok (.iload_n 0, 1) := by decide +kernel
theorem dX1_isPlace_1 : decode cX1_isPlace 1 = .ok (.ifCond .lt 23, 3) := by decide +kernel
theorem dX1_isPlace_4 : decode cX1_isPlace 4 = .ok (.iload_n 0, 1) := by decide +kernel
theorem dX1_isPlace_5 : decode cX1_isPlace 5 = .ok (.bipush 24, 2) := by decide +kernel
theorem dX1_isPlace_7 : decode cX1_isPlace 7 = .ok (.if_icmp .ge 17, 3) := by decide +kernel
theorem dX1_isPlace_10 : decode cX1_isPlace 10 = .ok (.iload_n 1, 1) := by decide +kernel
theorem dX1_isPlace_11 : decode cX1_isPlace 11 = .ok (.ifCond .lt 13, 3) := by decide +kernel
theorem dX1_isPlace_14 : decode cX1_isPlace 14 = .ok (.iload_n 1, 1) := by decide +kernel
theorem dX1_isPlace_15 : decode cX1_isPlace 15 = .ok (.bipush 24, 2) := by decide +kernel
theorem dX1_isPlace_17 : decode cX1_isPlace 17 = .ok (.if_icmp .ge 7, 3) := by decide +kernel
theorem dX1_isPlace_20 : decode cX1_isPlace 20 = .ok (.iconst 1, 1) := by decide +kernel
theorem dX1_isPlace_21 : decode cX1_isPlace 21 = .ok (.goto 4, 3) := by decide +kernel
theorem dX1_isPlace_24 : decode cX1_isPlace 24 = .ok (.iconst 0, 1) := by decide +kernel
theorem dX1_isPlace_25 : decode cX1_isPlace 25 = .ok (.ireturn, 1) := by decide +kernel
theorem dX1_isRectangle_0 : decode cX1_isRectangle 0 = .ok (.iload_n 0, 1) := by decide +kernel
theorem dX1_isRectangle_1 : decode cX1_isRectangle 1 = .ok (.ifCond .lt 33, 3) := by decide +kernel
theorem dX1_isRectangle_4 : decode cX1_isRectangle 4 = .ok (.iload_n 0, 1) := by decide +kernel
theorem dX1_isRectangle_5 : decode cX1_isRectangle 5 = .ok (.iload_n 1, 1) := by decide +kernel
theorem dX1_isRectangle_6 : decode cX1_isRectangle 6 = .ok (.if_icmp .gt 28, 3) := by decide +kernel
theorem dX1_isRectangle_9 : decode cX1_isRectangle 9 = .ok (.iload_n 1, 1) := by decide +kernel
theorem dX1_isRectangle_10 : decode cX1_isRectangle 10 = .ok (.bipush 24, 2) := by decide +kernel
theorem dX1_isRectangle_12 : decode cX1_isRectangle 12 = .ok (.if_icmp .ge 22, 3) := by decide +kernel
theorem dX1_isRectangle_15 : decode cX1_isRectangle 15 = .ok (.iload_n 2, 1) := by decide +kernel
theorem dX1_isRectangle_16 : decode cX1_isRectangle 16 = .ok (.ifCond .lt 18, 3) := by decide +kernel
theorem dX1_isRectangle_19 : decode cX1_isRectangle 19 = .ok (.iload_n 2, 1) := by decide +kernel
theorem dX1_isRectangle_20 : decode cX1_isRectangle 20 = .ok (.iload_n 3, 1) := by decide +kernel
theorem dX1_isRectangle_21 : decode cX1_isRectangle 21 = .ok (.if_icmp .gt 13, 3) := by decide +kernel
theorem dX1_isRectangle_24 : decode cX1_isRectangle 24 = .ok (.iload_n 3, 1) := by decide +kernel
theorem dX1_isRectangle_25 : decode cX1_isRectangle 25 = .ok (.bipush 24, 2) := by decide +kernel
theorem dX1_isRectangle_27 : decode cX1_isRectangle 27 = .ok (.if_icmp .ge 7, 3) := by decide +kernel
theorem dX1_isRectangle_30 : decode cX1_isRectangle 30 = .ok (.iconst 1, 1) := by decide +kernel
theorem dX1_isRectangle_31 : decode cX1_isRectangle 31 = .ok (.goto 4, 3) := by decide +kernel
theorem dX1_isRectangle_34 : decode cX1_isRectangle 34 = .ok (.iconst 0, 1) := by decide +kernel
theorem dX1_isRectangle_35 : decode cX1_isRectangle 35 = .ok (.ireturn, 1) := by decide +kernel
theorem dX1_placeOf_0 : decode cX1_placeOf 0 = .ok (.iload_n 0, 1) := by decide +kernel
theorem dX1_placeOf_1 : decode cX1_placeOf 1 = .ok (.iload_n 1, 1) := by decide +kernel
theorem dX1_placeOf_2 : decode cX1_placeOf 2 = .ok (.invokestatic 32, 3) := by decide +kernel
theorem dX1_placeOf_5 : decode cX1_placeOf 5 = .ok (.ifCond .eq 12, 3) := by decide +kernel
theorem dX1_placeOf_8 : decode cX1_placeOf 8 = .ok (.iload_n 1, 1) := by decide +kernel
theorem dX1_placeOf_9 : decode cX1_placeOf 9 = .ok (.bipush 24, 2) := by decide +kernel
theorem dX1_placeOf_11 : decode cX1_placeOf 11 = .ok (.imul, 1) := by decide +kernel
theorem dX1_placeOf_12 : decode cX1_placeOf 12 = .ok (.iload_n 0, 1) := by decide +kernel
theorem dX1_placeOf_13 : decode cX1_placeOf 13 = .ok (.iadd, 1) := by decide +kernel
theorem dX1_placeOf_14 : decode cX1_placeOf 14 = .ok (.goto 4, 3) := by decide +kernel
theorem dX1_placeOf_17 : decode cX1_placeOf 17 = .ok (.iconst (-1), 1) := by decide +kernel
theorem dX1_placeOf_18 : decode cX1_placeOf 18 = .ok (.ireturn, 1) := by decide +kernel
theorem dX1_neighbourOf_0 : decode cX1_neighbourOf 0 = .ok (.iload_n 0, 1) := by decide +kernel
theorem dX1_neighbourOf_1 : decode cX1_neighbourOf 1 = .ok (.ifCond .lt 20, 3) := by decide +kernel
theorem dX1_neighbourOf_4 : decode cX1_neighbourOf 4 = .ok (.iload_n 0, 1) := by decide +kernel
theorem dX1_neighbourOf_5 : decode cX1_neighbourOf 5 = .ok (.sipush 576, 3) := by decide +kernel
theorem dX1_neighbourOf_8 : decode cX1_neighbourOf 8 = .ok (.if_icmp .ge 13, 3) := by decide +kernel
theorem dX1_neighbourOf_11 : decode cX1_neighbourOf 11 = .ok (.iload_n 1, 1) := by decide +kernel
theorem dX1_neighbourOf_12 : decode cX1_neighbourOf 12 = .ok (.ifCond .lt 9, 3) := by decide +kernel
theorem dX1_neighbourOf_15 : decode cX1_neighbourOf 15 = .ok (.iload_n 1, 1) := by decide +kernel
theorem dX1_neighbourOf_16 : decode cX1_neighbourOf 16 = .ok (.bipush 8, 2) := by decide +kernel
theorem dX1_neighbourOf_18 : decode cX1_neighbourOf 18 = .ok (.if_icmp .lt 5, 3) := by decide +kernel
theorem dX1_neighbourOf_21 : decode cX1_neighbourOf 21 = .ok (.iconst (-1), 1) := by decide +kernel
theorem dX1_neighbourOf_22 : decode cX1_neighbourOf 22 = .ok (.ireturn, 1) := by decide +kernel
theorem dX1_neighbourOf_23 : decode cX1_neighbourOf 23 = .ok (.iload_n 0, 1) := by decide +kernel
theorem dX1_neighbourOf_24 : decode cX1_neighbourOf 24 = .ok (.bipush 24, 2) := by decide +kernel
theorem dX1_neighbourOf_26 : decode cX1_neighbourOf 26 = .ok (.irem, 1) := by decide +kernel
theorem dX1_neighbourOf_27 : decode cX1_neighbourOf 27 = .ok (.getstatic 36, 3) := by decide +kernel
theorem dX1_neighbourOf_30 : decode cX1_neighbourOf 30 = .ok (.iload_n 1, 1) := by decide +kernel
theorem dX1_neighbourOf_31 : decode cX1_neighbourOf 31 = .ok (.iaload, 1) := by decide +kernel
theorem dX1_neighbourOf_32 : decode cX1_neighbourOf 32 = .ok (.iadd, 1) := by decide +kernel
theorem dX1_neighbourOf_33 : decode cX1_neighbourOf 33 = .ok (.istore_n 2, 1) := by decide +kernel
theorem dX1_neighbourOf_34 : decode cX1_neighbourOf 34 = .ok (.iload_n 0, 1) := by decide +kernel
theorem dX1_neighbourOf_35 : decode cX1_neighbourOf 35 = .ok (.bipush 24, 2) := by decide +kernel
theorem dX1_neighbourOf_37 : decode cX1_neighbourOf 37 = .ok (.idiv, 1) := by decide +kernel
theorem dX1_neighbourOf_38 : decode cX1_neighbourOf 38 = .ok (.getstatic 39, 3) := by decide +kernel
theorem dX1_neighbourOf_41 : decode cX1_neighbourOf 41 = .ok (.iload_n 1, 1) := by decide +kernel
theorem dX1_neighbourOf_42 : decode cX1_neighbourOf 42 = .ok (.iaload, 1) := by decide +kernel
theorem dX1_neighbourOf_43 : decode cX1_neighbourOf 43 = .ok (.iadd, 1) := by decide +kernel
theorem dX1_neighbourOf_44 : decode cX1_neighbourOf 44 = .ok (.istore_n 3, 1) := by decide +kernel
theorem dX1_neighbourOf_45 : decode cX1_neighbourOf 45 = .ok (.iload_n 2, 1) := by decide +kernel
theorem dX1_neighbourOf_46 : decode cX1_neighbourOf 46 = .ok (.iload_n 3, 1) := by decide +kernel
theorem dX1_neighbourOf_47 : decode cX1_neighbourOf 47 = .ok (.invokestatic 32, 3) := by decide +kernel
theorem dX1_neighbourOf_50 : decode cX1_neighbourOf 50 = .ok (.ifCond .eq 12, 3) := by decide +kernel
theorem dX1_neighbourOf_53 : decode cX1_neighbourOf 53 = .ok (.iload_n 3, 1) := by decide +kernel
theorem dX1_neighbourOf_54 : decode cX1_neighbourOf 54 = .ok (.bipush 24, 2) := by decide +kernel
theorem dX1_neighbourOf_56 : decode cX1_neighbourOf 56 = .ok (.imul, 1) := by decide +kernel
theorem dX1_neighbourOf_57 : decode cX1_neighbourOf 57 = .ok (.iload_n 2, 1) := by decide +kernel
theorem dX1_neighbourOf_58 : decode cX1_neighbourOf 58 = .ok (.iadd, 1) := by decide +kernel
theorem dX1_neighbourOf_59 : decode cX1_neighbourOf 59 = .ok (.goto 4, 3) := by decide +kernel
theorem dX1_neighbourOf_62 : decode cX1_neighbourOf 62 = .ok (.iconst (-1), 1) := by decide +kernel
theorem dX1_neighbourOf_63 : decode cX1_neighbourOf 63 = .ok (.ireturn, 1) := by decide +kernel
theorem dX1_distance_0 : decode cX1_distance 0 = .ok (.iload_n 2, 1) := by decide +kernel
theorem dX1_distance_1 : decode cX1_distance 1 = .ok (.iload_n 0, 1) := by decide +kernel
theorem dX1_distance_2 : decode cX1_distance 2 = .ok (.isub, 1) := by decide +kernel
theorem dX1_distance_3 : decode cX1_distance 3 = .ok (.invokestatic 42, 3) := by decide +kernel
theorem dX1_distance_6 : decode cX1_distance 6 = .ok (.iload_n 3, 1) := by decide +kernel
theorem dX1_distance_7 : decode cX1_distance 7 = .ok (.iload_n 1, 1) := by decide +kernel
theorem dX1_distance_8 : decode cX1_distance 8 = .ok (.isub, 1) := by decide +kernel
theorem dX1_distance_9 : decode cX1_distance 9 = .ok (.invokestatic 42, 3) := by decide +kernel
theorem dX1_distance_12 : decode cX1_distance 12 = .ok (.invokestatic 48, 3) := by decide +kernel
theorem dX1_distance_15 : decode cX1_distance 15 = .ok (.ireturn, 1) := by decide +kernel
theorem dX1_octantOf_0 : decode cX1_octantOf 0 = .ok (.iload_n 0, 1) := by decide +kernel
theorem dX1_octantOf_1 : decode cX1_octantOf 1 = .ok (.iload_n 2, 1) := by decide +kernel
theorem dX1_octantOf_2 : decode cX1_octantOf 2 = .ok (.invokestatic 52, 3) := by decide +kernel
theorem dX1_octantOf_5 : decode cX1_octantOf 5 = .ok (.istore 4, 2) := by decide +kernel
theorem dX1_octantOf_7 : decode cX1_octantOf 7 = .ok (.iload_n 1, 1) := by decide +kernel
theorem dX1_octantOf_8 : decode cX1_octantOf 8 = .ok (.iload_n 3, 1) := by decide +kernel
theorem dX1_octantOf_9 : decode cX1_octantOf 9 = .ok (.invokestatic 52, 3) := by decide +kernel
theorem dX1_octantOf_12 : decode cX1_octantOf 12 = .ok (.istore 5, 2) := by decide +kernel
theorem dX1_octantOf_14 : decode cX1_octantOf 14 = .ok (.iconst 0, 1) := by decide +kernel
theorem dX1_octantOf_15 : decode cX1_octantOf 15 = .ok (.istore 6, 2) := by decide +kernel
theorem dX1_octantOf_17 : decode cX1_octantOf 17 = .ok (.iload 6, 2) := by decide +kernel
theorem dX1_octantOf_19 : decode cX1_octantOf 19 = .ok (.bipush 8, 2) := by decide +kernel
theorem dX1_octantOf_21 : decode cX1_octantOf 21 = .ok (.if_icmp .ge 34, 3) := by decide +kernel
theorem dX1_octantOf_24 : decode cX1_octantOf 24 = .ok (.getstatic 36, 3) := by decide +kernel
theorem dX1_octantOf_27 : decode cX1_octantOf 27 = .ok (.iload 6, 2) := by decide +kernel
theorem dX1_octantOf_29 : decode cX1_octantOf 29 = .ok (.iaload, 1) := by decide +kernel
theorem dX1_octantOf_30 : decode cX1_octantOf 30 = .ok (.iload 4, 2) := by decide +kernel
theorem dX1_octantOf_32 : decode cX1_octantOf 32 = .ok (.if_icmp .ne 17, 3) := by decide +kernel
theorem dX1_octantOf_35 : decode cX1_octantOf 35 = .ok (.getstatic 39, 3) := by decide +kernel
theorem dX1_octantOf_38 : decode cX1_octantOf 38 = .ok (.iload 6, 2) := by decide +kernel
theorem dX1_octantOf_40 : decode cX1_octantOf 40 = .ok (.iaload, 1) := by decide +kernel
theorem dX1_octantOf_41 : decode cX1_octantOf 41 = .ok (.iload 5, 2) := by decide +kernel
theorem dX1_octantOf_43 : decode cX1_octantOf 43 = .ok (.if_icmp .ne 6, 3) := by decide +kernel
theorem dX1_octantOf_46 : decode cX1_octantOf 46 = .ok (.iload 6, 2) := by decide +kernel
theorem dX1_octantOf_48 : decode cX1_octantOf 48 = .ok (.ireturn, 1) := by decide +kernel
theorem dX1_octantOf_49 : decode cX1_octantOf 49 = .ok (.iinc 6 1, 3) := by decide +kernel
theorem dX1_octantOf_52 : decode cX1_octantOf 52 = .ok (.goto (-35), 3) := by decide +kernel
theorem dX1_octantOf_55 : decode cX1_octantOf 55 = .ok (.bipush 8, 2) := by decide +kernel
theorem dX1_octantOf_57 : decode cX1_octantOf 57 = .ok (.ireturn, 1) := by decide +kernel
theorem dX1_heightAt_0 : decode cX1_heightAt 0 = .ok (.iload_n 1, 1) := by decide +kernel
theorem dX1_heightAt_1 : decode cX1_heightAt 1 = .ok (.iload_n 2, 1) := by decide +kernel
theorem dX1_heightAt_2 : decode cX1_heightAt 2 = .ok (.invokestatic 32, 3) := by decide +kernel
theorem dX1_heightAt_5 : decode cX1_heightAt 5 = .ok (.ifCond .eq 17, 3) := by decide +kernel
theorem dX1_heightAt_8 : decode cX1_heightAt 8 = .ok (.aload_n 0, 1) := by decide +kernel
theorem dX1_heightAt_9 : decode cX1_heightAt 9 = .ok (.getfield 9, 3) := by decide +kernel
theorem dX1_heightAt_12 : decode cX1_heightAt 12 = .ok (.iload_n 2, 1) := by decide +kernel
theorem dX1_heightAt_13 : decode cX1_heightAt 13 = .ok (.bipush 24, 2) := by decide +kernel
theorem dX1_heightAt_15 : decode cX1_heightAt 15 = .ok (.imul, 1) := by decide +kernel
theorem dX1_heightAt_16 : decode cX1_heightAt 16 = .ok (.iload_n 1, 1) := by decide +kernel
theorem dX1_heightAt_17 : decode cX1_heightAt 17 = .ok (.iadd, 1) := by decide +kernel
theorem dX1_heightAt_18 : decode cX1_heightAt 18 = .ok (.iaload, 1) := by decide +kernel
theorem dX1_heightAt_19 : decode cX1_heightAt 19 = .ok (.goto 4, 3) := by decide +kernel
theorem dX1_heightAt_22 : decode cX1_heightAt 22 = .ok (.iconst 0, 1) := by decide +kernel
theorem dX1_heightAt_23 : decode cX1_heightAt 23 = .ok (.ireturn, 1) := by decide +kernel
theorem dX1_roughAt_0 : decode cX1_roughAt 0 = .ok (.iload_n 1, 1) := by decide +kernel
theorem dX1_roughAt_1 : decode cX1_roughAt 1 = .ok (.iload_n 2, 1) := by decide +kernel
theorem dX1_roughAt_2 : decode cX1_roughAt 2 = .ok (.invokestatic 32, 3) := by decide +kernel
theorem dX1_roughAt_5 : decode cX1_roughAt 5 = .ok (.ifCond .eq 17, 3) := by decide +kernel
theorem dX1_roughAt_8 : decode cX1_roughAt 8 = .ok (.aload_n 0, 1) := by decide +kernel
theorem dX1_roughAt_9 : decode cX1_roughAt 9 = .ok (.getfield 15, 3) := by decide +kernel
theorem dX1_roughAt_12 : decode cX1_roughAt 12 = .ok (.iload_n 2, 1) := by decide +kernel
theorem dX1_roughAt_13 : decode cX1_roughAt 13 = .ok (.bipush 24, 2) := by decide +kernel
theorem dX1_roughAt_15 : decode cX1_roughAt 15 = .ok (.imul, 1) := by decide +kernel
theorem dX1_roughAt_16 : decode cX1_roughAt 16 = .ok (.iload_n 1, 1) := by decide +kernel
theorem dX1_roughAt_17 : decode cX1_roughAt 17 = .ok (.iadd, 1) := by decide +kernel
theorem dX1_roughAt_18 : decode cX1_roughAt 18 = .ok (.iaload, 1) := by decide +kernel
theorem dX1_roughAt_19 : decode cX1_roughAt 19 = .ok (.goto 4, 3) := by decide +kernel
theorem dX1_roughAt_22 : decode cX1_roughAt 22 = .ok (.iconst 0, 1) := by decide +kernel
theorem dX1_roughAt_23 : decode cX1_roughAt 23 = .ok (.ireturn, 1) := by decide +kernel
theorem dX1_isHazardAt_0 : decode cX1_isHazardAt 0 = .ok (.iload_n 1, 1) := by decide +kernel
theorem dX1_isHazardAt_1 : decode cX1_isHazardAt 1 = .ok (.iload_n 2, 1) := by decide +kernel
theorem dX1_isHazardAt_2 : decode cX1_isHazardAt 2 = .ok (.invokestatic 32, 3) := by decide +kernel
theorem dX1_isHazardAt_5 : decode cX1_isHazardAt 5 = .ok (.ifCond .eq 21, 3) := by decide +kernel
theorem dX1_isHazardAt_8 : decode cX1_isHazardAt 8 = .ok (.aload_n 0, 1) := by decide +kernel
theorem dX1_isHazardAt_9 : decode cX1_isHazardAt 9 = .ok (.getfield 18, 3) := by decide +kernel
theorem dX1_isHazardAt_12 : decode cX1_isHazardAt 12 = .ok (.iload_n 2, 1) := by decide +kernel
theorem dX1_isHazardAt_13 : decode cX1_isHazardAt 13 = .ok (.bipush 24, 2) := by decide +kernel
theorem dX1_isHazardAt_15 : decode cX1_isHazardAt 15 = .ok (.imul, 1) := by decide +kernel
theorem dX1_isHazardAt_16 : decode cX1_isHazardAt 16 = .ok (.iload_n 1, 1) := by decide +kernel
theorem dX1_isHazardAt_17 : decode cX1_isHazardAt 17 = .ok (.iadd, 1) := by decide +kernel
theorem dX1_isHazardAt_18 : decode cX1_isHazardAt 18 = .ok (.baload, 1) := by decide +kernel
theorem dX1_isHazardAt_19 : decode cX1_isHazardAt 19 = .ok (.ifCond .eq 7, 3) := by decide +kernel
theorem dX1_isHazardAt_22 : decode cX1_isHazardAt 22 = .ok (.iconst 1, 1) := by decide +kernel
theorem dX1_isHazardAt_23 : decode cX1_isHazardAt 23 = .ok (.goto 4, 3) := by decide +kernel
theorem dX1_isHazardAt_26 : decode cX1_isHazardAt 26 = .ok (.iconst 0, 1) := by decide +kernel
theorem dX1_isHazardAt_27 : decode cX1_isHazardAt 27 = .ok (.ireturn, 1) := by decide +kernel
theorem dX1_canLift_0 : decode cX1_canLift 0 = .ok (.iload 5, 2) := by decide +kernel
theorem dX1_canLift_2 : decode cX1_canLift 2 = .ok (.sipush (-198), 3) := by decide +kernel
theorem dX1_canLift_5 : decode cX1_canLift 5 = .ok (.if_icmp .lt 11, 3) := by decide +kernel
theorem dX1_canLift_8 : decode cX1_canLift 8 = .ok (.iload 5, 2) := by decide +kernel
theorem dX1_canLift_10 : decode cX1_canLift 10 = .ok (.sipush 198, 3) := by decide +kernel
theorem dX1_canLift_13 : decode cX1_canLift 13 = .ok (.if_icmp .le 5, 3) := by decide +kernel
theorem dX1_canLift_16 : decode cX1_canLift 16 = .ok (.iconst 0, 1) := by decide +kernel
theorem dX1_canLift_17 : decode cX1_canLift 17 = .ok (.ireturn, 1) := by decide +kernel
theorem dX1_canLift_18 : decode cX1_canLift 18 = .ok (.iload_n 3, 1) := by decide +kernel
theorem dX1_canLift_19 : decode cX1_canLift 19 = .ok (.istore 6, 2) := by decide +kernel
theorem dX1_canLift_21 : decode cX1_canLift 21 = .ok (.iload 6, 2) := by decide +kernel
theorem dX1_canLift_23 : decode cX1_canLift 23 = .ok (.iload 4, 2) := by decide +kernel
theorem dX1_canLift_25 : decode cX1_canLift 25 = .ok (.if_icmp .gt 53, 3) := by decide +kernel
theorem dX1_canLift_28 : decode cX1_canLift 28 = .ok (.iload_n 1, 1) := by decide +kernel
theorem dX1_canLift_29 : decode cX1_canLift 29 = .ok (.istore 7, 2) := by decide +kernel
theorem dX1_canLift_31 : decode cX1_canLift 31 = .ok (.iload 7, 2) := by decide +kernel
theorem dX1_canLift_33 : decode cX1_canLift 33 = .ok (.iload_n 2, 1) := by decide +kernel
theorem dX1_canLift_34 : decode cX1_canLift 34 = .ok (.if_icmp .gt 38, 3) := by decide +kernel
theorem dX1_canLift_37 : decode cX1_canLift 37 = .ok (.aload_n 0, 1) := by decide +kernel
theorem dX1_canLift_38 : decode cX1_canLift 38 = .ok (.iload 7, 2) := by decide +kernel
theorem dX1_canLift_40 : decode cX1_canLift 40 = .ok (.iload 6, 2) := by decide +kernel
theorem dX1_canLift_42 : decode cX1_canLift 42 = .ok (.invokevirtual 57, 3) := by decide +kernel
theorem dX1_canLift_45 : decode cX1_canLift 45 = .ok (.iload 5, 2) := by decide +kernel
theorem dX1_canLift_47 : decode cX1_canLift 47 = .ok (.iadd, 1) := by decide +kernel
theorem dX1_canLift_48 : decode cX1_canLift 48 = .ok (.istore 8, 2) := by decide +kernel
theorem dX1_canLift_50 : decode cX1_canLift 50 = .ok (.iload 8, 2) := by decide +kernel
theorem dX1_canLift_52 : decode cX1_canLift 52 = .ok (.bipush (-99), 2) := by decide +kernel
theorem dX1_canLift_54 : decode cX1_canLift 54 = .ok (.if_icmp .lt 10, 3) := by decide +kernel
theorem dX1_canLift_57 : decode cX1_canLift 57 = .ok (.iload 8, 2) := by decide +kernel
theorem dX1_canLift_59 : decode cX1_canLift 59 = .ok (.bipush 99, 2) := by decide +kernel
theorem dX1_canLift_61 : decode cX1_canLift 61 = .ok (.if_icmp .le 5, 3) := by decide +kernel
theorem dX1_canLift_64 : decode cX1_canLift 64 = .ok (.iconst 0, 1) := by decide +kernel
theorem dX1_canLift_65 : decode cX1_canLift 65 = .ok (.ireturn, 1) := by decide +kernel
theorem dX1_canLift_66 : decode cX1_canLift 66 = .ok (.iinc 7 1, 3) := by decide +kernel
theorem dX1_canLift_69 : decode cX1_canLift 69 = .ok (.goto (-38), 3) := by decide +kernel
theorem dX1_canLift_72 : decode cX1_canLift 72 = .ok (.iinc 6 1, 3) := by decide +kernel
theorem dX1_canLift_75 : decode cX1_canLift 75 = .ok (.goto (-54), 3) := by decide +kernel
theorem dX1_canLift_78 : decode cX1_canLift 78 = .ok (.iconst 1, 1) := by decide +kernel
theorem dX1_canLift_79 : decode cX1_canLift 79 = .ok (.ireturn, 1) := by decide +kernel
theorem dX1_lift_0 : decode cX1_lift 0 = .ok (.bipush (-99), 2) := by decide +kernel
theorem dX1_lift_2 : decode cX1_lift 2 = .ok (.istore 6, 2) := by decide +kernel
theorem dX1_lift_4 : decode cX1_lift 4 = .ok (.iload_n 3, 1) := by decide +kernel
theorem dX1_lift_5 : decode cX1_lift 5 = .ok (.istore 7, 2) := by decide +kernel
theorem dX1_lift_7 : decode cX1_lift 7 = .ok (.iload 7, 2) := by decide +kernel
theorem dX1_lift_9 : decode cX1_lift 9 = .ok (.iload 4, 2) := by decide +kernel
theorem dX1_lift_11 : decode cX1_lift 11 = .ok (.if_icmp .gt 72, 3) := by decide +kernel
theorem dX1_lift_14 : decode cX1_lift 14 = .ok (.iload_n 1, 1) := by decide +kernel
theorem dX1_lift_15 : decode cX1_lift 15 = .ok (.istore 8, 2) := by decide +kernel
theorem dX1_lift_17 : decode cX1_lift 17 = .ok (.iload 8, 2) := by decide +kernel
theorem dX1_lift_19 : decode cX1_lift 19 = .ok (.iload_n 2, 1) := by decide +kernel
theorem dX1_lift_20 : decode cX1_lift 20 = .ok (.if_icmp .gt 57, 3) := by decide +kernel
theorem dX1_lift_23 : decode cX1_lift 23 = .ok (.iload 8, 2) := by decide +kernel
theorem dX1_lift_25 : decode cX1_lift 25 = .ok (.iload 7, 2) := by decide +kernel
theorem dX1_lift_27 : decode cX1_lift 27 = .ok (.invokestatic 32, 3) := by decide +kernel
theorem dX1_lift_30 : decode cX1_lift 30 = .ok (.ifCond .eq 41, 3) := by decide +kernel
theorem dX1_lift_33 : decode cX1_lift 33 = .ok (.aload_n 0, 1) := by decide +kernel
theorem dX1_lift_34 : decode cX1_lift 34 = .ok (.getfield 9, 3) := by decide +kernel
theorem dX1_lift_37 : decode cX1_lift 37 = .ok (.iload 7, 2) := by decide +kernel
theorem dX1_lift_39 : decode cX1_lift 39 = .ok (.bipush 24, 2) := by decide +kernel
theorem dX1_lift_41 : decode cX1_lift 41 = .ok (.imul, 1) := by decide +kernel
theorem dX1_lift_42 : decode cX1_lift 42 = .ok (.iload 8, 2) := by decide +kernel
theorem dX1_lift_44 : decode cX1_lift 44 = .ok (.iadd, 1) := by decide +kernel
theorem dX1_lift_45 : decode cX1_lift 45 = .ok (.dup2, 1) := by decide +kernel
theorem dX1_lift_46 : decode cX1_lift 46 = .ok (.iaload, 1) := by decide +kernel
theorem dX1_lift_47 : decode cX1_lift 47 = .ok (.iload 5, 2) := by decide +kernel
theorem dX1_lift_49 : decode cX1_lift 49 = .ok (.iadd, 1) := by decide +kernel
theorem dX1_lift_50 : decode cX1_lift 50 = .ok (.iastore, 1) := by decide +kernel
theorem dX1_lift_51 : decode cX1_lift 51 = .ok (.iload 6, 2) := by decide +kernel
theorem dX1_lift_53 : decode cX1_lift 53 = .ok (.aload_n 0, 1) := by decide +kernel
theorem dX1_lift_54 : decode cX1_lift 54 = .ok (.getfield 9, 3) := by decide +kernel
theorem dX1_lift_57 : decode cX1_lift 57 = .ok (.iload 7, 2) := by decide +kernel
theorem dX1_lift_59 : decode cX1_lift 59 = .ok (.bipush 24, 2) := by decide +kernel
theorem dX1_lift_61 : decode cX1_lift 61 = .ok (.imul, 1) := by decide +kernel
theorem dX1_lift_62 : decode cX1_lift 62 = .ok (.iload 8, 2) := by decide +kernel
theorem dX1_lift_64 : decode cX1_lift 64 = .ok (.iadd, 1) := by decide +kernel
theorem dX1_lift_65 : decode cX1_lift 65 = .ok (.iaload, 1) := by decide +kernel
theorem dX1_lift_66 : decode cX1_lift 66 = .ok (.invokestatic 48, 3) := by decide +kernel
theorem dX1_lift_69 : decode cX1_lift 69 = .ok (.istore 6, 2) := by decide +kernel
theorem dX1_lift_71 : decode cX1_lift 71 = .ok (.iinc 8 1, 3) := by decide +kernel
theorem dX1_lift_74 : decode cX1_lift 74 = .ok (.goto (-57), 3) := by decide +kernel
theorem dX1_lift_77 : decode cX1_lift 77 = .ok (.iinc 7 1, 3) := by decide +kernel
theorem dX1_lift_80 : decode cX1_lift 80 = .ok (.goto (-73), 3) := by decide +kernel
theorem dX1_lift_83 : decode cX1_lift 83 = .ok (.aload_n 0, 1) := by decide +kernel
theorem dX1_lift_84 : decode cX1_lift 84 = .ok (.invokevirtual 29, 3) := by decide +kernel
theorem dX1_lift_87 : decode cX1_lift 87 = .ok (.iload 6, 2) := by decide +kernel
theorem dX1_lift_89 : decode cX1_lift 89 = .ok (.ireturn, 1) := by decide +kernel
theorem dX1_cover_0 : decode cX1_cover 0 = .ok (.iload_n 3, 1) := by decide +kernel
theorem dX1_cover_1 : decode cX1_cover 1 = .ok (.istore 7, 2) := by decide +kernel
theorem dX1_cover_3 : decode cX1_cover 3 = .ok (.iload 7, 2) := by decide +kernel
theorem dX1_cover_5 : decode cX1_cover 5 = .ok (.iload 4, 2) := by decide +kernel
theorem dX1_cover_7 : decode cX1_cover 7 = .ok (.if_icmp .gt 64, 3) := by decide +kernel
theorem dX1_cover_10 : decode cX1_cover 10 = .ok (.iload_n 1, 1) := by decide +kernel
theorem dX1_cover_11 : decode cX1_cover 11 = .ok (.istore 8, 2) := by decide +kernel
theorem dX1_cover_13 : decode cX1_cover 13 = .ok (.iload 8, 2) := by decide +kernel
theorem dX1_cover_15 : decode cX1_cover 15 = .ok (.iload_n 2, 1) := by decide +kernel
theorem dX1_cover_16 : decode cX1_cover 16 = .ok (.if_icmp .gt 49, 3) := by decide +kernel
theorem dX1_cover_19 : decode cX1_cover 19 = .ok (.iload 8, 2) := by decide +kernel
theorem dX1_cover_21 : decode cX1_cover 21 = .ok (.iload 7, 2) := by decide +kernel
theorem dX1_cover_23 : decode cX1_cover 23 = .ok (.invokestatic 32, 3) := by decide +kernel
theorem dX1_cover_26 : decode cX1_cover 26 = .ok (.ifCond .eq 33, 3) := by decide +kernel
theorem dX1_cover_29 : decode cX1_cover 29 = .ok (.aload_n 0, 1) := by decide +kernel
theorem dX1_cover_30 : decode cX1_cover 30 = .ok (.getfield 15, 3) := by decide +kernel
theorem dX1_cover_33 : decode cX1_cover 33 = .ok (.iload 7, 2) := by decide +kernel
theorem dX1_cover_35 : decode cX1_cover 35 = .ok (.bipush 24, 2) := by decide +kernel
theorem dX1_cover_37 : decode cX1_cover 37 = .ok (.imul, 1) := by decide +kernel
theorem dX1_cover_38 : decode cX1_cover 38 = .ok (.iload 8, 2) := by decide +kernel
theorem dX1_cover_40 : decode cX1_cover 40 = .ok (.iadd, 1) := by decide +kernel
theorem dX1_cover_41 : decode cX1_cover 41 = .ok (.iload 5, 2) := by decide +kernel
theorem dX1_cover_43 : decode cX1_cover 43 = .ok (.iastore, 1) := by decide +kernel
theorem dX1_cover_44 : decode cX1_cover 44 = .ok (.aload_n 0, 1) := by decide +kernel
theorem dX1_cover_45 : decode cX1_cover 45 = .ok (.getfield 18, 3) := by decide +kernel
theorem dX1_cover_48 : decode cX1_cover 48 = .ok (.iload 7, 2) := by decide +kernel
theorem dX1_cover_50 : decode cX1_cover 50 = .ok (.bipush 24, 2) := by decide +kernel
theorem dX1_cover_52 : decode cX1_cover 52 = .ok (.imul, 1) := by decide +kernel
theorem dX1_cover_53 : decode cX1_cover 53 = .ok (.iload 8, 2) := by decide +kernel
theorem dX1_cover_55 : decode cX1_cover 55 = .ok (.iadd, 1) := by decide +kernel
theorem dX1_cover_56 : decode cX1_cover 56 = .ok (.iload 6, 2) := by decide +kernel
theorem dX1_cover_58 : decode cX1_cover 58 = .ok (.bastore, 1) := by decide +kernel
theorem dX1_cover_59 : decode cX1_cover 59 = .ok (.iinc 8 1, 3) := by decide +kernel
theorem dX1_cover_62 : decode cX1_cover 62 = .ok (.goto (-49), 3) := by decide +kernel
theorem dX1_cover_65 : decode cX1_cover 65 = .ok (.iinc 7 1, 3) := by decide +kernel
theorem dX1_cover_68 : decode cX1_cover 68 = .ok (.goto (-65), 3) := by decide +kernel
theorem dX1_cover_71 : decode cX1_cover 71 = .ok (.aload_n 0, 1) := by decide +kernel
theorem dX1_cover_72 : decode cX1_cover 72 = .ok (.invokevirtual 29, 3) := by decide +kernel
theorem dX1_cover_75 : decode cX1_cover 75 = .ok (.return_, 1) := by decide +kernel
theorem dX1_limitSlope_0 : decode cX1_limitSlope 0 = .ok (.aload_n 0, 1) := by decide +kernel
theorem dX1_limitSlope_1 : decode cX1_limitSlope 1 = .ok (.iload_n 1, 1) := by decide +kernel
theorem dX1_limitSlope_2 : decode cX1_limitSlope 2 = .ok (.putfield 25, 3) := by decide +kernel
theorem dX1_limitSlope_5 : decode cX1_limitSlope 5 = .ok (.aload_n 0, 1) := by decide +kernel
theorem dX1_limitSlope_6 : decode cX1_limitSlope 6 = .ok (.invokevirtual 29, 3) := by decide +kernel
theorem dX1_limitSlope_9 : decode cX1_limitSlope 9 = .ok (.return_, 1) := by decide +kernel
theorem dX1_measureSteps_0 : decode cX1_measureSteps 0 = .ok (.iconst 0, 1) := by decide +kernel
theorem dX1_measureSteps_1 : decode cX1_measureSteps 1 = .ok (.istore_n 1, 1) := by decide +kernel
theorem dX1_measureSteps_2 : decode cX1_measureSteps 2 = .ok (.iload_n 1, 1) := by decide +kernel
theorem dX1_measureSteps_3 : decode cX1_measureSteps 3 = .ok (.sipush 576, 3) := by decide +kernel
theorem dX1_measureSteps_6 : decode cX1_measureSteps 6 = .ok (.if_icmp .ge 47, 3) := by decide +kernel
theorem dX1_measureSteps_9 : decode cX1_measureSteps 9 = .ok (.iconst 0, 1) := by decide +kernel
theorem dX1_measureSteps_10 : decode cX1_measureSteps 10 = .ok (.istore_n 2, 1) := by decide +kernel
theorem dX1_measureSteps_11 : decode cX1_measureSteps 11 = .ok (.iload_n 2, 1) := by decide +kernel
theorem dX1_measureSteps_12 : decode cX1_measureSteps 12 = .ok (.bipush 8, 2) := by decide +kernel
theorem dX1_measureSteps_14 : decode cX1_measureSteps 14 = .ok (.if_icmp .ge 33, 3) := by decide +kernel
theorem dX1_measureSteps_17 : decode cX1_measureSteps 17 = .ok (.aload_n 0, 1) := by decide +kernel
theorem dX1_measureSteps_18 : decode cX1_measureSteps 18 = .ok (.getfield 22, 3) := by decide +kernel
theorem dX1_measureSteps_21 : decode cX1_measureSteps 21 = .ok (.iload_n 1, 1) := by decide +kernel
theorem dX1_measureSteps_22 : decode cX1_measureSteps 22 = .ok (.bipush 8, 2) := by decide +kernel
theorem dX1_measureSteps_24 : decode cX1_measureSteps 24 = .ok (.imul, 1) := by decide +kernel
theorem dX1_measureSteps_25 : decode cX1_measureSteps 25 = .ok (.iload_n 2, 1) := by decide +kernel
theorem dX1_measureSteps_26 : decode cX1_measureSteps 26 = .ok (.iadd, 1) := by decide +kernel
theorem dX1_measureSteps_27 : decode cX1_measureSteps 27 = .ok (.aload_n 0, 1) := by decide +kernel
theorem dX1_measureSteps_28 : decode cX1_measureSteps 28 = .ok (.iload_n 1, 1) := by decide +kernel
theorem dX1_measureSteps_29 : decode cX1_measureSteps 29 = .ok (.bipush 24, 2) := by decide +kernel
theorem dX1_measureSteps_31 : decode cX1_measureSteps 31 = .ok (.irem, 1) := by decide +kernel
theorem dX1_measureSteps_32 : decode cX1_measureSteps 32 = .ok (.iload_n 1, 1) := by decide +kernel
theorem dX1_measureSteps_33 : decode cX1_measureSteps 33 = .ok (.bipush 24, 2) := by decide +kernel
theorem dX1_measureSteps_35 : decode cX1_measureSteps 35 = .ok (.idiv, 1) := by decide +kernel
theorem dX1_measureSteps_36 : decode cX1_measureSteps 36 = .ok (.iload_n 2, 1) := by decide +kernel
theorem dX1_measureSteps_37 : decode cX1_measureSteps 37 = .ok (.invokevirtual 60, 3) := by decide +kernel
theorem dX1_measureSteps_40 : decode cX1_measureSteps 40 = .ok (.iastore, 1) := by decide +kernel
theorem dX1_measureSteps_41 : decode cX1_measureSteps 41 = .ok (.iinc 2 1, 3) := by decide +kernel
theorem dX1_measureSteps_44 : decode cX1_measureSteps 44 = .ok (.goto (-33), 3) := by decide +kernel
theorem dX1_measureSteps_47 : decode cX1_measureSteps 47 = .ok (.iinc 1 1, 3) := by decide +kernel
theorem dX1_measureSteps_50 : decode cX1_measureSteps 50 = .ok (.goto (-48), 3) := by decide +kernel
theorem dX1_measureSteps_53 : decode cX1_measureSteps 53 = .ok (.return_, 1) := by decide +kernel
theorem dX1_measureStep_0 : decode cX1_measureStep 0 = .ok (.iload_n 1, 1) := by decide +kernel
theorem dX1_measureStep_1 : decode cX1_measureStep 1 = .ok (.getstatic 36, 3) := by decide +kernel
theorem dX1_measureStep_4 : decode cX1_measureStep 4 = .ok (.iload_n 3, 1) := by decide +kernel
theorem dX1_measureStep_5 : decode cX1_measureStep 5 = .ok (.iaload, 1) := by decide +kernel
theorem dX1_measureStep_6 : decode cX1_measureStep 6 = .ok (.iadd, 1) := by decide +kernel
theorem dX1_measureStep_7 : decode cX1_measureStep 7 = .ok (.istore 4, 2) := by decide +kernel
theorem dX1_measureStep_9 : decode cX1_measureStep 9 = .ok (.iload_n 2, 1) := by decide +kernel
theorem dX1_measureStep_10 : decode cX1_measureStep 10 = .ok (.getstatic 39, 3) := by decide +kernel
theorem dX1_measureStep_13 : decode cX1_measureStep 13 = .ok (.iload_n 3, 1) := by decide +kernel
theorem dX1_measureStep_14 : decode cX1_measureStep 14 = .ok (.iaload, 1) := by decide +kernel
theorem dX1_measureStep_15 : decode cX1_measureStep 15 = .ok (.iadd, 1) := by decide +kernel
theorem dX1_measureStep_16 : decode cX1_measureStep 16 = .ok (.istore 5, 2) := by decide +kernel
theorem dX1_measureStep_18 : decode cX1_measureStep 18 = .ok (.iload 4, 2) := by decide +kernel
theorem dX1_measureStep_20 : decode cX1_measureStep 20 = .ok (.iload 5, 2) := by decide +kernel
theorem dX1_measureStep_22 : decode cX1_measureStep 22 = .ok (.invokestatic 32, 3) := by decide +kernel
theorem dX1_measureStep_25 : decode cX1_measureStep 25 = .ok (.ifCond .eq 14, 3) := by decide +kernel
theorem dX1_measureStep_28 : decode cX1_measureStep 28 = .ok (.aload_n 0, 1) := by decide +kernel
theorem dX1_measureStep_29 : decode cX1_measureStep 29 = .ok (.iload 4, 2) := by decide +kernel
theorem dX1_measureStep_31 : decode cX1_measureStep 31 = .ok (.iload 5, 2) := by decide +kernel
theorem dX1_measureStep_33 : decode cX1_measureStep 33 = .ok (.invokevirtual 64, 3) := by decide +kernel
theorem dX1_measureStep_36 : decode cX1_measureStep 36 = .ok (.ifCond .eq 5, 3) := by decide +kernel
theorem dX1_measureStep_39 : decode cX1_measureStep 39 = .ok (.iconst (-1), 1) := by decide +kernel
theorem dX1_measureStep_40 : decode cX1_measureStep 40 = .ok (.ireturn, 1) := by decide +kernel
theorem dX1_measureStep_41 : decode cX1_measureStep 41 = .ok (.aload_n 0, 1) := by decide +kernel
theorem dX1_measureStep_42 : decode cX1_measureStep 42 = .ok (.iload 4, 2) := by decide +kernel
theorem dX1_measureStep_44 : decode cX1_measureStep 44 = .ok (.iload 5, 2) := by decide +kernel
theorem dX1_measureStep_46 : decode cX1_measureStep 46 = .ok (.invokevirtual 57, 3) := by decide +kernel
theorem dX1_measureStep_49 : decode cX1_measureStep 49 = .ok (.aload_n 0, 1) := by decide +kernel
theorem dX1_measureStep_50 : decode cX1_measureStep 50 = .ok (.iload_n 1, 1) := by decide +kernel
theorem dX1_measureStep_51 : decode cX1_measureStep 51 = .ok (.iload_n 2, 1) := by decide +kernel
theorem dX1_measureStep_52 : decode cX1_measureStep 52 = .ok (.invokevirtual 57, 3) := by decide +kernel
theorem dX1_measureStep_55 : decode cX1_measureStep 55 = .ok (.isub, 1) := by decide +kernel
theorem dX1_measureStep_56 : decode cX1_measureStep 56 = .ok (.istore 6, 2) := by decide +kernel
theorem dX1_measureStep_58 : decode cX1_measureStep 58 = .ok (.iload 6, 2) := by decide +kernel
theorem dX1_measureStep_60 : decode cX1_measureStep 60 = .ok (.invokestatic 42, 3) := by decide +kernel
theorem dX1_measureStep_63 : decode cX1_measureStep 63 = .ok (.aload_n 0, 1) := by decide +kernel
theorem dX1_measureStep_64 : decode cX1_measureStep 64 = .ok (.getfield 25, 3) := by decide +kernel
theorem dX1_measureStep_67 : decode cX1_measureStep 67 = .ok (.if_icmp .le 5, 3) := by decide +kernel
theorem dX1_measureStep_70 : decode cX1_measureStep 70 = .ok (.iconst (-1), 1) := by decide +kernel
theorem dX1_measureStep_71 : decode cX1_measureStep 71 = .ok (.ireturn, 1) := by decide +kernel
theorem dX1_measureStep_72 : decode cX1_measureStep 72 = .ok (.iload 4, 2) := by decide +kernel
theorem dX1_measureStep_74 : decode cX1_measureStep 74 = .ok (.iload_n 1, 1) := by decide +kernel
theorem dX1_measureStep_75 : decode cX1_measureStep 75 = .ok (.if_icmp .eq 13, 3) := by decide +kernel
theorem dX1_measureStep_78 : decode cX1_measureStep 78 = .ok (.iload 5, 2) := by decide +kernel
theorem dX1_measureStep_80 : decode cX1_measureStep 80 = .ok (.iload_n 2, 1) := by decide +kernel
theorem dX1_measureStep_81 : decode cX1_measureStep 81 = .ok (.if_icmp .eq 7, 3) := by decide +kernel
theorem dX1_measureStep_84 : decode cX1_measureStep 84 = .ok (.iconst 1, 1) := by decide +kernel
theorem dX1_measureStep_85 : decode cX1_measureStep 85 = .ok (.goto 4, 3) := by decide +kernel
theorem dX1_measureStep_88 : decode cX1_measureStep 88 = .ok (.iconst 0, 1) := by decide +kernel
theorem dX1_measureStep_89 : decode cX1_measureStep 89 = .ok (.istore 7, 2) := by decide +kernel
theorem dX1_measureStep_91 : decode cX1_measureStep 91 = .ok (.iload 7, 2) := by decide +kernel
theorem dX1_measureStep_93 : decode cX1_measureStep 93 = .ok (.ifCond .eq 25, 3) := by decide +kernel
theorem dX1_measureStep_96 : decode cX1_measureStep 96 = .ok (.aload_n 0, 1) := by decide +kernel
theorem dX1_measureStep_97 : decode cX1_measureStep 97 = .ok (.iload 4, 2) := by decide +kernel
theorem dX1_measureStep_99 : decode cX1_measureStep 99 = .ok (.iload_n 2, 1) := by decide +kernel
theorem dX1_measureStep_100 : decode cX1_measureStep 100 = .ok (.invokevirtual 64, 3) := by decide +kernel
theorem dX1_measureStep_103 : decode cX1_measureStep 103 = .ok (.ifCond .ne 13, 3) := by decide +kernel
theorem dX1_measureStep_106 : decode cX1_measureStep 106 = .ok (.aload_n 0, 1) := by decide +kernel
theorem dX1_measureStep_107 : decode cX1_measureStep 107 = .ok (.iload_n 1, 1) := by decide +kernel
theorem dX1_measureStep_108 : decode cX1_measureStep 108 = .ok (.iload 5, 2) := by decide +kernel
theorem dX1_measureStep_110 : decode cX1_measureStep 110 = .ok (.invokevirtual 64, 3) := by decide +kernel
theorem dX1_measureStep_113 : decode cX1_measureStep 113 = .ok (.ifCond .eq 5, 3) := by decide +kernel
theorem dX1_measureStep_116 : decode cX1_measureStep 116 = .ok (.iconst (-1), 1) := by decide +kernel
theorem dX1_measureStep_117 : decode cX1_measureStep 117 = .ok (.ireturn, 1) := by decide +kernel
theorem dX1_measureStep_118 : decode cX1_measureStep 118 = .ok (.iload 7, 2) := by decide +kernel
theorem dX1_measureStep_120 : decode cX1_measureStep 120 = .ok (.ifCond .eq 7, 3) := by decide +kernel
theorem dX1_measureStep_123 : decode cX1_measureStep 123 = .ok (.iconst 3, 1) := by decide +kernel
theorem dX1_measureStep_124 : decode cX1_measureStep 124 = .ok (.goto 4, 3) := by decide +kernel
theorem dX1_measureStep_127 : decode cX1_measureStep 127 = .ok (.iconst 2, 1) := by decide +kernel
theorem dX1_measureStep_128 : decode cX1_measureStep 128 = .ok (.iconst 2, 1) := by decide +kernel
theorem dX1_measureStep_129 : decode cX1_measureStep 129 = .ok (.aload_n 0, 1) := by decide +kernel
theorem dX1_measureStep_130 : decode cX1_measureStep 130 = .ok (.iload 4, 2) := by decide +kernel
theorem dX1_measureStep_132 : decode cX1_measureStep 132 = .ok (.iload 5, 2) := by decide +kernel
theorem dX1_measureStep_134 : decode cX1_measureStep 134 = .ok (.invokevirtual 67, 3) := by decide +kernel
theorem dX1_measureStep_137 : decode cX1_measureStep 137 = .ok (.iadd, 1) := by decide +kernel
theorem dX1_measureStep_138 : decode cX1_measureStep 138 = .ok (.imul, 1) := by decide +kernel
theorem dX1_measureStep_139 : decode cX1_measureStep 139 = .ok (.iconst 0, 1) := by decide +kernel
theorem dX1_measureStep_140 : decode cX1_measureStep 140 = .ok (.iload 6, 2) := by decide +kernel
theorem dX1_measureStep_142 : decode cX1_measureStep 142 = .ok (.invokestatic 48, 3) := by decide +kernel
theorem dX1_measureStep_145 : decode cX1_measureStep 145 = .ok (.iconst 3, 1) := by decide +kernel
theorem dX1_measureStep_146 : decode cX1_measureStep 146 = .ok (.idiv, 1) := by decide +kernel
theorem dX1_measureStep_147 : decode cX1_measureStep 147 = .ok (.iadd, 1) := by decide +kernel
theorem dX1_measureStep_148 : decode cX1_measureStep 148 = .ok (.ireturn, 1) := by decide +kernel
theorem dX1_minutesOf_0 : decode cX1_minutesOf 0 = .ok (.iload_n 1, 1) := by decide +kernel
theorem dX1_minutesOf_1 : decode cX1_minutesOf 1 = .ok (.ifCond .lt 20, 3) := by decide +kernel
theorem dX1_minutesOf_4 : decode cX1_minutesOf 4 = .ok (.iload_n 1, 1) := by decide +kernel
theorem dX1_minutesOf_5 : decode cX1_minutesOf 5 = .ok (.sipush 576, 3) := by decide +kernel
theorem dX1_minutesOf_8 : decode cX1_minutesOf 8 = .ok (.if_icmp .ge 13, 3) := by decide +kernel
theorem dX1_minutesOf_11 : decode cX1_minutesOf 11 = .ok (.iload_n 2, 1) := by decide +kernel
theorem dX1_minutesOf_12 : decode cX1_minutesOf 12 = .ok (.ifCond .lt 9, 3) := by decide +kernel
theorem dX1_minutesOf_15 : decode cX1_minutesOf 15 = .ok (.iload_n 2, 1) := by decide +kernel
theorem dX1_minutesOf_16 : decode cX1_minutesOf 16 = .ok (.bipush 8, 2) := by decide +kernel
theorem dX1_minutesOf_18 : decode cX1_minutesOf 18 = .ok (.if_icmp .lt 5, 3) := by decide +kernel
theorem dX1_minutesOf_21 : decode cX1_minutesOf 21 = .ok (.iconst (-1), 1) := by decide +kernel
theorem dX1_minutesOf_22 : decode cX1_minutesOf 22 = .ok (.ireturn, 1) := by decide +kernel
theorem dX1_minutesOf_23 : decode cX1_minutesOf 23 = .ok (.aload_n 0, 1) := by decide +kernel
theorem dX1_minutesOf_24 : decode cX1_minutesOf 24 = .ok (.getfield 22, 3) := by decide +kernel
theorem dX1_minutesOf_27 : decode cX1_minutesOf 27 = .ok (.iload_n 1, 1) := by decide +kernel
theorem dX1_minutesOf_28 : decode cX1_minutesOf 28 = .ok (.bipush 8, 2) := by decide +kernel
theorem dX1_minutesOf_30 : decode cX1_minutesOf 30 = .ok (.imul, 1) := by decide +kernel
theorem dX1_minutesOf_31 : decode cX1_minutesOf 31 = .ok (.iload_n 2, 1) := by decide +kernel
theorem dX1_minutesOf_32 : decode cX1_minutesOf 32 = .ok (.iadd, 1) := by decide +kernel
theorem dX1_minutesOf_33 : decode cX1_minutesOf 33 = .ok (.iaload, 1) := by decide +kernel
theorem dX1_minutesOf_34 : decode cX1_minutesOf 34 = .ok (.ireturn, 1) := by decide +kernel
theorem dX1_energyOf_0 : decode cX1_energyOf 0 = .ok (.aload_n 0, 1) := by decide +kernel
theorem dX1_energyOf_1 : decode cX1_energyOf 1 = .ok (.iload_n 1, 1) := by decide +kernel
theorem dX1_energyOf_2 : decode cX1_energyOf 2 = .ok (.iload_n 2, 1) := by decide +kernel
theorem dX1_energyOf_3 : decode cX1_energyOf 3 = .ok (.invokevirtual 70, 3) := by decide +kernel
theorem dX1_energyOf_6 : decode cX1_energyOf 6 = .ok (.istore_n 3, 1) := by decide +kernel
theorem dX1_energyOf_7 : decode cX1_energyOf 7 = .ok (.iload_n 3, 1) := by decide +kernel
theorem dX1_energyOf_8 : decode cX1_energyOf 8 = .ok (.iconst (-1), 1) := by decide +kernel
theorem dX1_energyOf_9 : decode cX1_energyOf 9 = .ok (.if_icmp .ne 5, 3) := by decide +kernel
theorem dX1_energyOf_12 : decode cX1_energyOf 12 = .ok (.iconst 0, 1) := by decide +kernel
theorem dX1_energyOf_13 : decode cX1_energyOf 13 = .ok (.ireturn, 1) := by decide +kernel
theorem dX1_energyOf_14 : decode cX1_energyOf 14 = .ok (.iload_n 1, 1) := by decide +kernel
theorem dX1_energyOf_15 : decode cX1_energyOf 15 = .ok (.getstatic 39, 3) := by decide +kernel
theorem dX1_energyOf_18 : decode cX1_energyOf 18 = .ok (.iload_n 2, 1) := by decide +kernel
theorem dX1_energyOf_19 : decode cX1_energyOf 19 = .ok (.iaload, 1) := by decide +kernel
theorem dX1_energyOf_20 : decode cX1_energyOf 20 = .ok (.bipush 24, 2) := by decide +kernel
theorem dX1_energyOf_22 : decode cX1_energyOf 22 = .ok (.imul, 1) := by decide +kernel
theorem dX1_energyOf_23 : decode cX1_energyOf 23 = .ok (.iadd, 1) := by decide +kernel
theorem dX1_energyOf_24 : decode cX1_energyOf 24 = .ok (.getstatic 36, 3) := by decide +kernel
theorem dX1_energyOf_27 : decode cX1_energyOf 27 = .ok (.iload_n 2, 1) := by decide +kernel
theorem dX1_energyOf_28 : decode cX1_energyOf 28 = .ok (.iaload, 1) := by decide +kernel
theorem dX1_energyOf_29 : decode cX1_energyOf 29 = .ok (.iadd, 1) := by decide +kernel
theorem dX1_energyOf_30 : decode cX1_energyOf 30 = .ok (.istore 4, 2) := by decide +kernel
theorem dX1_energyOf_32 : decode cX1_energyOf 32 = .ok (.iload 4, 2) := by decide +kernel
theorem dX1_energyOf_34 : decode cX1_energyOf 34 = .ok (.ifCond .lt 11, 3) := by decide +kernel
theorem dX1_energyOf_37 : decode cX1_energyOf 37 = .ok (.iload 4, 2) := by decide +kernel
theorem dX1_energyOf_39 : decode cX1_energyOf 39 = .ok (.sipush 576, 3) := by decide +kernel
theorem dX1_energyOf_42 : decode cX1_energyOf 42 = .ok (.if_icmp .lt 7, 3) := by decide +kernel
theorem dX1_energyOf_45 : decode cX1_energyOf 45 = .ok (.iconst 0, 1) := by decide +kernel
theorem dX1_energyOf_46 : decode cX1_energyOf 46 = .ok (.goto 17, 3) := by decide +kernel
theorem dX1_energyOf_49 : decode cX1_energyOf 49 = .ok (.aload_n 0, 1) := by decide +kernel
theorem dX1_energyOf_50 : decode cX1_energyOf 50 = .ok (.getfield 9, 3) := by decide +kernel
theorem dX1_energyOf_53 : decode cX1_energyOf 53 = .ok (.iload 4, 2) := by decide +kernel
theorem dX1_energyOf_55 : decode cX1_energyOf 55 = .ok (.iaload, 1) := by decide +kernel
theorem dX1_energyOf_56 : decode cX1_energyOf 56 = .ok (.aload_n 0, 1) := by decide +kernel
theorem dX1_energyOf_57 : decode cX1_energyOf 57 = .ok (.getfield 9, 3) := by decide +kernel
theorem dX1_energyOf_60 : decode cX1_energyOf 60 = .ok (.iload_n 1, 1) := by decide +kernel
theorem dX1_energyOf_61 : decode cX1_energyOf 61 = .ok (.iaload, 1) := by decide +kernel
theorem dX1_energyOf_62 : decode cX1_energyOf 62 = .ok (.isub, 1) := by decide +kernel
theorem dX1_energyOf_63 : decode cX1_energyOf 63 = .ok (.istore 5, 2) := by decide +kernel
theorem dX1_energyOf_65 : decode cX1_energyOf 65 = .ok (.iconst 4, 1) := by decide +kernel
theorem dX1_energyOf_66 : decode cX1_energyOf 66 = .ok (.iload_n 3, 1) := by decide +kernel
theorem dX1_energyOf_67 : decode cX1_energyOf 67 = .ok (.imul, 1) := by decide +kernel
theorem dX1_energyOf_68 : decode cX1_energyOf 68 = .ok (.iconst 2, 1) := by decide +kernel
theorem dX1_energyOf_69 : decode cX1_energyOf 69 = .ok (.iconst 0, 1) := by decide +kernel
theorem dX1_energyOf_70 : decode cX1_energyOf 70 = .ok (.iload 5, 2) := by decide +kernel
theorem dX1_energyOf_72 : decode cX1_energyOf 72 = .ok (.invokestatic 48, 3) := by decide +kernel
theorem dX1_energyOf_75 : decode cX1_energyOf 75 = .ok (.imul, 1) := by decide +kernel
theorem dX1_energyOf_76 : decode cX1_energyOf 76 = .ok (.iadd, 1) := by decide +kernel
theorem dX1_energyOf_77 : decode cX1_energyOf 77 = .ok (.ireturn, 1) := by decide +kernel
theorem dX1_isSeen_0 : decode cX1_isSeen 0 = .ok (.iload_n 1, 1) := by decide +kernel
theorem dX1_isSeen_1 : decode cX1_isSeen 1 = .ok (.iload_n 2, 1) := by decide +kernel
theorem dX1_isSeen_2 : decode cX1_isSeen 2 = .ok (.iload_n 3, 1) := by decide +kernel
theorem dX1_isSeen_3 : decode cX1_isSeen 3 = .ok (.iload 4, 2) := by decide +kernel
theorem dX1_isSeen_5 : decode cX1_isSeen 5 = .ok (.invokestatic 73, 3) := by decide +kernel
theorem dX1_isSeen_8 : decode cX1_isSeen 8 = .ok (.istore 5, 2) := by decide +kernel
theorem dX1_isSeen_10 : decode cX1_isSeen 10 = .ok (.aload_n 0, 1) := by decide +kernel
theorem dX1_isSeen_11 : decode cX1_isSeen 11 = .ok (.iload_n 1, 1) := by decide +kernel
theorem dX1_isSeen_12 : decode cX1_isSeen 12 = .ok (.iload_n 2, 1) := by decide +kernel
theorem dX1_isSeen_13 : decode cX1_isSeen 13 = .ok (.invokevirtual 57, 3) := by decide +kernel
theorem dX1_isSeen_16 : decode cX1_isSeen 16 = .ok (.iconst 3, 1) := by decide +kernel
theorem dX1_isSeen_17 : decode cX1_isSeen 17 = .ok (.iadd, 1) := by decide +kernel
theorem dX1_isSeen_18 : decode cX1_isSeen 18 = .ok (.istore 6, 2) := by decide +kernel
theorem dX1_isSeen_20 : decode cX1_isSeen 20 = .ok (.aload_n 0, 1) := by decide +kernel
theorem dX1_isSeen_21 : decode cX1_isSeen 21 = .ok (.iload_n 3, 1) := by decide +kernel
theorem dX1_isSeen_22 : decode cX1_isSeen 22 = .ok (.iload 4, 2) := by decide +kernel
theorem dX1_isSeen_24 : decode cX1_isSeen 24 = .ok (.invokevirtual 57, 3) := by decide +kernel
theorem dX1_isSeen_27 : decode cX1_isSeen 27 = .ok (.iload 6, 2) := by decide +kernel
theorem dX1_isSeen_29 : decode cX1_isSeen 29 = .ok (.isub, 1) := by decide +kernel
theorem dX1_isSeen_30 : decode cX1_isSeen 30 = .ok (.istore 7, 2) := by decide +kernel
theorem dX1_isSeen_32 : decode cX1_isSeen 32 = .ok (.iconst 1, 1) := by decide +kernel
theorem dX1_isSeen_33 : decode cX1_isSeen 33 = .ok (.istore 8, 2) := by decide +kernel
theorem dX1_isSeen_35 : decode cX1_isSeen 35 = .ok (.iload 8, 2) := by decide +kernel
theorem dX1_isSeen_37 : decode cX1_isSeen 37 = .ok (.iload 5, 2) := by decide +kernel
theorem dX1_isSeen_39 : decode cX1_isSeen 39 = .ok (.if_icmp .ge 78, 3) := by decide +kernel
theorem dX1_isSeen_42 : decode cX1_isSeen 42 = .ok (.iload_n 1, 1) := by decide +kernel
theorem dX1_isSeen_43 : decode cX1_isSeen 43 = .ok (.iconst 2, 1) := by decide +kernel
theorem dX1_isSeen_44 : decode cX1_isSeen 44 = .ok (.iload 8, 2) := by decide +kernel
theorem dX1_isSeen_46 : decode cX1_isSeen 46 = .ok (.imul, 1) := by decide +kernel
theorem dX1_isSeen_47 : decode cX1_isSeen 47 = .ok (.iload_n 3, 1) := by decide +kernel
theorem dX1_isSeen_48 : decode cX1_isSeen 48 = .ok (.iload_n 1, 1) := by decide +kernel
theorem dX1_isSeen_49 : decode cX1_isSeen 49 = .ok (.isub, 1) := by decide +kernel
theorem dX1_isSeen_50 : decode cX1_isSeen 50 = .ok (.imul, 1) := by decide +kernel
theorem dX1_isSeen_51 : decode cX1_isSeen 51 = .ok (.iload 5, 2) := by decide +kernel
theorem dX1_isSeen_53 : decode cX1_isSeen 53 = .ok (.iadd, 1) := by decide +kernel
theorem dX1_isSeen_54 : decode cX1_isSeen 54 = .ok (.iconst 2, 1) := by decide +kernel
theorem dX1_isSeen_55 : decode cX1_isSeen 55 = .ok (.iload 5, 2) := by decide +kernel
theorem dX1_isSeen_57 : decode cX1_isSeen 57 = .ok (.imul, 1) := by decide +kernel
theorem dX1_isSeen_58 : decode cX1_isSeen 58 = .ok (.invokestatic 77, 3) := by decide +kernel
theorem dX1_isSeen_61 : decode cX1_isSeen 61 = .ok (.iadd, 1) := by decide +kernel
theorem dX1_isSeen_62 : decode cX1_isSeen 62 = .ok (.istore 9, 2) := by decide +kernel
theorem dX1_isSeen_64 : decode cX1_isSeen 64 = .ok (.iload_n 2, 1) := by decide +kernel
theorem dX1_isSeen_65 : decode cX1_isSeen 65 = .ok (.iconst 2, 1) := by decide +kernel
theorem dX1_isSeen_66 : decode cX1_isSeen 66 = .ok (.iload 8, 2) := by decide +kernel
theorem dX1_isSeen_68 : decode cX1_isSeen 68 = .ok (.imul, 1) := by decide +kernel
theorem dX1_isSeen_69 : decode cX1_isSeen 69 = .ok (.iload 4, 2) := by decide +kernel
theorem dX1_isSeen_71 : decode cX1_isSeen 71 = .ok (.iload_n 2, 1) := by decide +kernel
theorem dX1_isSeen_72 : decode cX1_isSeen 72 = .ok (.isub, 1) := by decide +kernel
theorem dX1_isSeen_73 : decode cX1_isSeen 73 = .ok (.imul, 1) := by decide +kernel
theorem dX1_isSeen_74 : decode cX1_isSeen 74 = .ok (.iload 5, 2) := by decide +kernel
theorem dX1_isSeen_76 : decode cX1_isSeen 76 = .ok (.iadd, 1) := by decide +kernel
theorem dX1_isSeen_77 : decode cX1_isSeen 77 = .ok (.iconst 2, 1) := by decide +kernel
theorem dX1_isSeen_78 : decode cX1_isSeen 78 = .ok (.iload 5, 2) := by decide +kernel
theorem dX1_isSeen_80 : decode cX1_isSeen 80 = .ok (.imul, 1) := by decide +kernel
theorem dX1_isSeen_81 : decode cX1_isSeen 81 = .ok (.invokestatic 77, 3) := by decide +kernel
theorem dX1_isSeen_84 : decode cX1_isSeen 84 = .ok (.iadd, 1) := by decide +kernel
theorem dX1_isSeen_85 : decode cX1_isSeen 85 = .ok (.istore 10, 2) := by decide +kernel
theorem dX1_isSeen_87 : decode cX1_isSeen 87 = .ok (.aload_n 0, 1) := by decide +kernel
theorem dX1_isSeen_88 : decode cX1_isSeen 88 = .ok (.iload 9, 2) := by decide +kernel
theorem dX1_isSeen_90 : decode cX1_isSeen 90 = .ok (.iload 10, 2) := by decide +kernel
theorem dX1_isSeen_92 : decode cX1_isSeen 92 = .ok (.invokevirtual 57, 3) := by decide +kernel
theorem dX1_isSeen_95 : decode cX1_isSeen 95 = .ok (.iload 6, 2) := by decide +kernel
theorem dX1_isSeen_97 : decode cX1_isSeen 97 = .ok (.iload 7, 2) := by decide +kernel
theorem dX1_isSeen_99 : decode cX1_isSeen 99 = .ok (.iload 8, 2) := by decide +kernel
theorem dX1_isSeen_101 : decode cX1_isSeen 101 = .ok (.imul, 1) := by decide +kernel
theorem dX1_isSeen_102 : decode cX1_isSeen 102 = .ok (.iload 5, 2) := by decide +kernel
theorem dX1_isSeen_104 : decode cX1_isSeen 104 = .ok (.idiv, 1) := by decide +kernel
theorem dX1_isSeen_105 : decode cX1_isSeen 105 = .ok (.iadd, 1) := by decide +kernel
theorem dX1_isSeen_106 : decode cX1_isSeen 106 = .ok (.if_icmp .le 5, 3) := by decide +kernel
theorem dX1_isSeen_109 : decode cX1_isSeen 109 = .ok (.iconst 0, 1) := by decide +kernel
theorem dX1_isSeen_110 : decode cX1_isSeen 110 = .ok (.ireturn, 1) := by decide +kernel
theorem dX1_isSeen_111 : decode cX1_isSeen 111 = .ok (.iinc 8 1, 3) := by decide +kernel
theorem dX1_isSeen_114 : decode cX1_isSeen 114 = .ok (.goto (-79), 3) := by decide +kernel
theorem dX1_isSeen_117 : decode cX1_isSeen 117 = .ok (.iconst 1, 1) := by decide +kernel
theorem dX1_isSeen_118 : decode cX1_isSeen 118 = .ok (.ireturn, 1) := by decide +kernel
theorem dX2_init_0 : decode cX2_init 0 = .ok (.aload_n 0, 1) := by decide +kernel
theorem dX2_init_1 : decode cX2_init 1 = .ok (.invokespecial 3, 3) := by decide +kernel
theorem dX2_init_4 : decode cX2_init 4 = .ok (.aload_n 0, 1) := by decide +kernel
theorem dX2_init_5 : decode cX2_init 5 = .ok (.new 9, 3) := by decide +kernel
theorem dX2_init_8 : decode cX2_init 8 = .ok (.dup, 1) := by decide +kernel
theorem dX2_init_9 : decode cX2_init 9 = .ok (.invokespecial 11, 3) := by decide +kernel
theorem dX2_init_12 : decode cX2_init 12 = .ok (.putfield 12, 3) := by decide +kernel
theorem dX2_init_15 : decode cX2_init 15 = .ok (.aload_n 0, 1) := by decide +kernel
theorem dX2_init_16 : decode cX2_init 16 = .ok (.aload_n 1, 1) := by decide +kernel
theorem dX2_init_17 : decode cX2_init 17 = .ok (.putfield 18, 3) := by decide +kernel
theorem dX2_init_20 : decode cX2_init 20 = .ok (.aload_n 0, 1) := by decide +kernel
theorem dX2_init_21 : decode cX2_init 21 = .ok (.aload_n 2, 1) := by decide +kernel
theorem dX2_init_22 : decode cX2_init 22 = .ok (.putfield 22, 3) := by decide +kernel
theorem dX2_init_25 : decode cX2_init 25 = .ok (.aload_n 0, 1) := by decide +kernel
theorem dX2_init_26 : decode cX2_init 26 = .ok (.aload_n 3, 1) := by decide +kernel
theorem dX2_init_27 : decode cX2_init 27 = .ok (.putfield 26, 3) := by decide +kernel
theorem dX2_init_30 : decode cX2_init 30 = .ok (.aload_n 0, 1) := by decide +kernel
theorem dX2_init_31 : decode cX2_init 31 = .ok (.aload 4, 2) := by decide +kernel
theorem dX2_init_33 : decode cX2_init 33 = .ok (.putfield 30, 3) := by decide +kernel
theorem dX2_init_36 : decode cX2_init 36 = .ok (.return_, 1) := by decide +kernel
theorem dX2_extend_0 : decode cX2_extend 0 = .ok (.aload_n 1, 1) := by decide +kernel
theorem dX2_extend_1 : decode cX2_extend 1 = .ok (.getfield 34, 3) := by decide +kernel
theorem dX2_extend_4 : decode cX2_extend 4 = .ok (.istore 4, 2) := by decide +kernel
theorem dX2_extend_6 : decode cX2_extend 6 = .ok (.aload_n 2, 1) := by decide +kernel
theorem dX2_extend_7 : decode cX2_extend 7 = .ok (.getfield 40, 3) := by decide +kernel
theorem dX2_extend_10 : decode cX2_extend 10 = .ok (.iload_n 3, 1) := by decide +kernel
theorem dX2_extend_11 : decode cX2_extend 11 = .ok (.iadd, 1) := by decide +kernel
theorem dX2_extend_12 : decode cX2_extend 12 = .ok (.istore 5, 2) := by decide +kernel
theorem dX2_extend_14 : decode cX2_extend 14 = .ok (.iconst 0, 1) := by decide +kernel
theorem dX2_extend_15 : decode cX2_extend 15 = .ok (.istore 6, 2) := by decide +kernel
theorem dX2_extend_17 : decode cX2_extend 17 = .ok (.iconst 0, 1) := by decide +kernel
theorem dX2_extend_18 : decode cX2_extend 18 = .ok (.istore 7, 2) := by decide +kernel
theorem dX2_extend_20 : decode cX2_extend 20 = .ok (.iload 7, 2) := by decide +kernel
theorem dX2_extend_22 : decode cX2_extend 22 = .ok (.bipush 52, 2) := by decide +kernel
theorem dX2_extend_24 : decode cX2_extend 24 = .ok (.if_icmp .ge 86, 3) := by decide +kernel
theorem dX2_extend_27 : decode cX2_extend 27 = .ok (.aload_n 1, 1) := by decide +kernel
theorem dX2_extend_28 : decode cX2_extend 28 = .ok (.iconst 2, 1) := by decide +kernel
theorem dX2_extend_29 : decode cX2_extend 29 = .ok (.invokevirtual 43, 3) := by decide +kernel
theorem dX2_extend_32 : decode cX2_extend 32 = .ok (.ifCond .eq 78, 3) := by decide +kernel
theorem dX2_extend_35 : decode cX2_extend 35 = .ok (.aload_n 0, 1) := by decide +kernel
theorem dX2_extend_36 : decode cX2_extend 36 = .ok (.getfield 22, 3) := by decide +kernel
theorem dX2_extend_39 : decode cX2_extend 39 = .ok (.aload_n 2, 1) := by decide +kernel
theorem dX2_extend_40 : decode cX2_extend 40 = .ok (.getfield 47, 3) := by decide +kernel
theorem dX2_extend_43 : decode cX2_extend 43 = .ok (.aload_n 2, 1) := by decide +kernel
theorem dX2_extend_44 : decode cX2_extend 44 = .ok (.getfield 50, 3) := by decide +kernel
theorem dX2_extend_47 : decode cX2_extend 47 = .ok (.invokestatic 53, 3) := by decide +kernel
theorem dX2_extend_50 : decode cX2_extend 50 = .ok (.invokevirtual 59, 3) := by decide +kernel
theorem dX2_extend_53 : decode cX2_extend 53 = .ok (.aload_n 0, 1) := by decide +kernel
theorem dX2_extend_54 : decode cX2_extend 54 = .ok (.aload_n 2, 1) := by decide +kernel
theorem dX2_extend_55 : decode cX2_extend 55 = .ok (.iload 6, 2) := by decide +kernel
theorem dX2_extend_57 : decode cX2_extend 57 = .ok (.invokevirtual 65, 3) := by decide +kernel
theorem dX2_extend_60 : decode cX2_extend 60 = .ok (.istore 8, 2) := by decide +kernel
theorem dX2_extend_62 : decode cX2_extend 62 = .ok (.aload_n 0, 1) := by decide +kernel
theorem dX2_extend_63 : decode cX2_extend 63 = .ok (.aload_n 2, 1) := by decide +kernel
theorem dX2_extend_64 : decode cX2_extend 64 = .ok (.iload 8, 2) := by decide +kernel
theorem dX2_extend_66 : decode cX2_extend 66 = .ok (.invokevirtual 69, 3) := by decide +kernel
theorem dX2_extend_69 : decode cX2_extend 69 = .ok (.istore 9, 2) := by decide +kernel
theorem dX2_extend_71 : decode cX2_extend 71 = .ok (.iload 9, 2) := by decide +kernel
theorem dX2_extend_73 : decode cX2_extend 73 = .ok (.iconst (-1), 1) := by decide +kernel
theorem dX2_extend_74 : decode cX2_extend 74 = .ok (.if_icmp .ne 6, 3) := by decide +kernel
theorem dX2_extend_77 : decode cX2_extend 77 = .ok (.goto 33, 3) := by decide +kernel
theorem dX2_extend_80 : decode cX2_extend 80 = .ok (.aload_n 0, 1) := by decide +kernel
theorem dX2_extend_81 : decode cX2_extend 81 = .ok (.aload_n 1, 1) := by decide +kernel
theorem dX2_extend_82 : decode cX2_extend 82 = .ok (.aload_n 2, 1) := by decide +kernel
theorem dX2_extend_83 : decode cX2_extend 83 = .ok (.iload 8, 2) := by decide +kernel
theorem dX2_extend_85 : decode cX2_extend 85 = .ok (.iload 9, 2) := by decide +kernel
theorem dX2_extend_87 : decode cX2_extend 87 = .ok (.iload 5, 2) := by decide +kernel
theorem dX2_extend_89 : decode cX2_extend 89 = .ok (.invokevirtual 72, 3) := by decide +kernel
theorem dX2_extend_92 : decode cX2_extend 92 = .ok (.ifCond .ne 12, 3) := by decide +kernel
theorem dX2_extend_95 : decode cX2_extend 95 = .ok (.iload 6, 2) := by decide +kernel
theorem dX2_extend_97 : decode cX2_extend 97 = .ok (.iconst 1, 1) := by decide +kernel
theorem dX2_extend_98 : decode cX2_extend 98 = .ok (.iload 8, 2) := by decide +kernel
theorem dX2_extend_100 : decode cX2_extend 100 = .ok (.ishl, 1) := by decide +kernel
theorem dX2_extend_101 : decode cX2_extend 101 = .ok (.ior, 1) := by decide +kernel
theorem dX2_extend_102 : decode cX2_extend 102 = .ok (.istore 6, 2) := by decide +kernel
theorem dX2_extend_104 : decode cX2_extend 104 = .ok (.iinc 7 1, 3) := by decide +kernel
theorem dX2_extend_107 : decode cX2_extend 107 = .ok (.goto (-87), 3) := by decide +kernel
theorem dX2_extend_110 : decode cX2_extend 110 = .ok (.aload_n 1, 1) := by decide +kernel
theorem dX2_extend_111 : decode cX2_extend 111 = .ok (.getfield 34, 3) := by decide +kernel
theorem dX2_extend_114 : decode cX2_extend 114 = .ok (.iload 4, 2) := by decide +kernel
theorem dX2_extend_116 : decode cX2_extend 116 = .ok (.isub, 1) := by decide +kernel
theorem dX2_extend_117 : decode cX2_extend 117 = .ok (.ireturn, 1) := by decide +kernel
theorem dX2_choose_0 : decode cX2_choose 0 = .ok (.iconst (-1), 1) := by decide +kernel
theorem dX2_choose_1 : decode cX2_choose 1 = .ok (.istore_n 3, 1) := by decide +kernel
theorem dX2_choose_2 : decode cX2_choose 2 = .ok (.iconst (-1), 1) := by decide +kernel
theorem dX2_choose_3 : decode cX2_choose 3 = .ok (.istore 4, 2) := by decide +kernel
theorem dX2_choose_5 : decode cX2_choose 5 = .ok (.iconst 0, 1) := by decide +kernel
theorem dX2_choose_6 : decode cX2_choose 6 = .ok (.istore 5, 2) := by decide +kernel
theorem dX2_choose_8 : decode cX2_choose 8 = .ok (.iload 5, 2) := by decide +kernel
theorem dX2_choose_10 : decode cX2_choose 10 = .ok (.aload_n 0, 1) := by decide +kernel
theorem dX2_choose_11 : decode cX2_choose 11 = .ok (.getfield 26, 3) := by decide +kernel
theorem dX2_choose_14 : decode cX2_choose 14 = .ok (.getfield 76, 3) := by decide +kernel
theorem dX2_choose_17 : decode cX2_choose 17 = .ok (.if_icmp .ge 83, 3) := by decide +kernel
theorem dX2_choose_20 : decode cX2_choose 20 = .ok (.iload_n 2, 1) := by decide +kernel
theorem dX2_choose_21 : decode cX2_choose 21 = .ok (.iload 5, 2) := by decide +kernel
theorem dX2_choose_23 : decode cX2_choose 23 = .ok (.ishr, 1) := by decide +kernel
theorem dX2_choose_24 : decode cX2_choose 24 = .ok (.iconst 1, 1) := by decide +kernel
theorem dX2_choose_25 : decode cX2_choose 25 = .ok (.iand, 1) := by decide +kernel
theorem dX2_choose_26 : decode cX2_choose 26 = .ok (.iconst 1, 1) := by decide +kernel
theorem dX2_choose_27 : decode cX2_choose 27 = .ok (.if_icmp .ne 7, 3) := by decide +kernel
theorem dX2_choose_30 : decode cX2_choose 30 = .ok (.iconst (-1), 1) := by decide +kernel
theorem dX2_choose_31 : decode cX2_choose 31 = .ok (.goto 10, 3) := by decide +kernel
theorem dX2_choose_34 : decode cX2_choose 34 = .ok (.aload_n 0, 1) := by decide +kernel
theorem dX2_choose_35 : decode cX2_choose 35 = .ok (.aload_n 1, 1) := by decide +kernel
theorem dX2_choose_36 : decode cX2_choose 36 = .ok (.iload 5, 2) := by decide +kernel
theorem dX2_choose_38 : decode cX2_choose 38 = .ok (.invokevirtual 69, 3) := by decide +kernel
theorem dX2_choose_41 : decode cX2_choose 41 = .ok (.istore 6, 2) := by decide +kernel
theorem dX2_choose_43 : decode cX2_choose 43 = .ok (.iload 6, 2) := by decide +kernel
theorem dX2_choose_45 : decode cX2_choose 45 = .ok (.iconst (-1), 1) := by decide +kernel
theorem dX2_choose_46 : decode cX2_choose 46 = .ok (.if_icmp .eq 48, 3) := by decide +kernel
theorem dX2_choose_49 : decode cX2_choose 49 = .ok (.sipush 1000, 3) := by decide +kernel
theorem dX2_choose_52 : decode cX2_choose 52 = .ok (.aload_n 0, 1) := by decide +kernel
theorem dX2_choose_53 : decode cX2_choose 53 = .ok (.getfield 26, 3) := by decide +kernel
theorem dX2_choose_56 : decode cX2_choose 56 = .ok (.iload 5, 2) := by decide +kernel
theorem dX2_choose_58 : decode cX2_choose 58 = .ok (.invokevirtual 79, 3) := by decide +kernel
theorem dX2_choose_61 : decode cX2_choose 61 = .ok (.imul, 1) := by decide +kernel
theorem dX2_choose_62 : decode cX2_choose 62 = .ok (.iconst 1, 1) := by decide +kernel
theorem dX2_choose_63 : decode cX2_choose 63 = .ok (.iconst 0, 1) := by decide +kernel
theorem dX2_choose_64 : decode cX2_choose 64 = .ok (.aload_n 0, 1) := by decide +kernel
theorem dX2_choose_65 : decode cX2_choose 65 = .ok (.getfield 22, 3) := by decide +kernel
theorem dX2_choose_68 : decode cX2_choose 68 = .ok (.iload 6, 2) := by decide +kernel
theorem dX2_choose_70 : decode cX2_choose 70 = .ok (.invokevirtual 83, 3) := by decide +kernel
theorem dX2_choose_73 : decode cX2_choose 73 = .ok (.invokestatic 86, 3) := by decide +kernel
theorem dX2_choose_76 : decode cX2_choose 76 = .ok (.iadd, 1) := by decide +kernel
theorem dX2_choose_77 : decode cX2_choose 77 = .ok (.idiv, 1) := by decide +kernel
theorem dX2_choose_78 : decode cX2_choose 78 = .ok (.istore 7, 2) := by decide +kernel
theorem dX2_choose_80 : decode cX2_choose 80 = .ok (.iload 7, 2) := by decide +kernel
theorem dX2_choose_82 : decode cX2_choose 82 = .ok (.iload 4, 2) := by decide +kernel
theorem dX2_choose_84 : decode cX2_choose 84 = .ok (.if_icmp .le 10, 3) := by decide +kernel
theorem dX2_choose_87 : decode cX2_choose 87 = .ok (.iload 5, 2) := by decide +kernel
theorem dX2_choose_89 : decode cX2_choose 89 = .ok (.istore_n 3, 1) := by decide +kernel
theorem dX2_choose_90 : decode cX2_choose 90 = .ok (.iload 7, 2) := by decide +kernel
theorem dX2_choose_92 : decode cX2_choose 92 = .ok (.istore 4, 2) := by decide +kernel
theorem dX2_choose_94 : decode cX2_choose 94 = .ok (.iinc 5 1, 3) := by decide +kernel
theorem dX2_choose_97 : decode cX2_choose 97 = .ok (.goto (-89), 3) := by decide +kernel
theorem dX2_choose_100 : decode cX2_choose 100 = .ok (.iload_n 3, 1) := by decide +kernel
theorem dX2_choose_101 : decode cX2_choose 101 = .ok (.ireturn, 1) := by decide +kernel
theorem dX2_visit_0 : decode cX2_visit 0 = .ok (.aload_n 0, 1) := by decide +kernel
theorem dX2_visit_1 : decode cX2_visit 1 = .ok (.getfield 26, 3) := by decide +kernel
theorem dX2_visit_4 : decode cX2_visit 4 = .ok (.iload_n 3, 1) := by decide +kernel
theorem dX2_visit_5 : decode cX2_visit 5 = .ok (.invokevirtual 91, 3) := by decide +kernel
theorem dX2_visit_8 : decode cX2_visit 8 = .ok (.iconst 4, 1) := by decide +kernel
theorem dX2_visit_9 : decode cX2_visit 9 = .ok (.if_icmp .ne 7, 3) := by decide +kernel
theorem dX2_visit_12 : decode cX2_visit 12 = .ok (.iconst 2, 1) := by decide +kernel
theorem dX2_visit_13 : decode cX2_visit 13 = .ok (.goto 4, 3) := by decide +kernel
theorem dX2_visit_16 : decode cX2_visit 16 = .ok (.iconst 1, 1) := by decide +kernel
theorem dX2_visit_17 : decode cX2_visit 17 = .ok (.istore 6, 2) := by decide +kernel
theorem dX2_visit_19 : decode cX2_visit 19 = .ok (.iload 4, 2) := by decide +kernel
theorem dX2_visit_21 : decode cX2_visit 21 = .ok (.bipush 24, 2) := by decide +kernel
theorem dX2_visit_23 : decode cX2_visit 23 = .ok (.irem, 1) := by decide +kernel
theorem dX2_visit_24 : decode cX2_visit 24 = .ok (.istore 7, 2) := by decide +kernel
theorem dX2_visit_26 : decode cX2_visit 26 = .ok (.iload 4, 2) := by decide +kernel
theorem dX2_visit_28 : decode cX2_visit 28 = .ok (.bipush 24, 2) := by decide +kernel
theorem dX2_visit_30 : decode cX2_visit 30 = .ok (.idiv, 1) := by decide +kernel
theorem dX2_visit_31 : decode cX2_visit 31 = .ok (.istore 8, 2) := by decide +kernel
theorem dX2_visit_33 : decode cX2_visit 33 = .ok (.aload_n 0, 1) := by decide +kernel
theorem dX2_visit_34 : decode cX2_visit 34 = .ok (.getfield 12, 3) := by decide +kernel
theorem dX2_visit_37 : decode cX2_visit 37 = .ok (.aload_n 2, 1) := by decide +kernel
theorem dX2_visit_38 : decode cX2_visit 38 = .ok (.invokevirtual 94, 3) := by decide +kernel
theorem dX2_visit_41 : decode cX2_visit 41 = .ok (.aload_n 0, 1) := by decide +kernel
theorem dX2_visit_42 : decode cX2_visit 42 = .ok (.getfield 30, 3) := by decide +kernel
theorem dX2_visit_45 : decode cX2_visit 45 = .ok (.aload_n 2, 1) := by decide +kernel
theorem dX2_visit_46 : decode cX2_visit 46 = .ok (.iconst 0, 1) := by decide +kernel
theorem dX2_visit_47 : decode cX2_visit 47 = .ok (.iload 7, 2) := by decide +kernel
theorem dX2_visit_49 : decode cX2_visit 49 = .ok (.iload 8, 2) := by decide +kernel
theorem dX2_visit_51 : decode cX2_visit 51 = .ok (.invokevirtual 98, 3) := by decide +kernel
theorem dX2_visit_54 : decode cX2_visit 54 = .ok (.ifCond .ne 27, 3) := by decide +kernel
theorem dX2_visit_57 : decode cX2_visit 57 = .ok (.aload_n 0, 1) := by decide +kernel
theorem dX2_visit_58 : decode cX2_visit 58 = .ok (.getfield 30, 3) := by decide +kernel
theorem dX2_visit_61 : decode cX2_visit 61 = .ok (.aload_n 2, 1) := by decide +kernel
theorem dX2_visit_62 : decode cX2_visit 62 = .ok (.iload 6, 2) := by decide +kernel
theorem dX2_visit_64 : decode cX2_visit 64 = .ok (.iload_n 3, 1) := by decide +kernel
theorem dX2_visit_65 : decode cX2_visit 65 = .ok (.iconst 5, 1) := by decide +kernel
theorem dX2_visit_66 : decode cX2_visit 66 = .ok (.invokevirtual 98, 3) := by decide +kernel
theorem dX2_visit_69 : decode cX2_visit 69 = .ok (.ifCond .ne 12, 3) := by decide +kernel
theorem dX2_visit_72 : decode cX2_visit 72 = .ok (.aload_n 2, 1) := by decide +kernel
theorem dX2_visit_73 : decode cX2_visit 73 = .ok (.getfield 40, 3) := by decide +kernel
theorem dX2_visit_76 : decode cX2_visit 76 = .ok (.iload 5, 2) := by decide +kernel
theorem dX2_visit_78 : decode cX2_visit 78 = .ok (.if_icmp .le 13, 3) := by decide +kernel
theorem dX2_visit_81 : decode cX2_visit 81 = .ok (.aload_n 2, 1) := by decide +kernel
theorem dX2_visit_82 : decode cX2_visit 82 = .ok (.aload_n 0, 1) := by decide +kernel
theorem dX2_visit_83 : decode cX2_visit 83 = .ok (.getfield 12, 3) := by decide +kernel
theorem dX2_visit_86 : decode cX2_visit 86 = .ok (.invokevirtual 94, 3) := by decide +kernel
theorem dX2_visit_89 : decode cX2_visit 89 = .ok (.iconst 0, 1) := by decide +kernel
theorem dX2_visit_90 : decode cX2_visit 90 = .ok (.ireturn, 1) := by decide +kernel
theorem dX2_visit_91 : decode cX2_visit 91 = .ok (.aload_n 1, 1) := by decide +kernel
theorem dX2_visit_92 : decode cX2_visit 92 = .ok (.aload_n 1, 1) := by decide +kernel
theorem dX2_visit_93 : decode cX2_visit 93 = .ok (.getfield 34, 3) := by decide +kernel
theorem dX2_visit_96 : decode cX2_visit 96 = .ok (.iconst 0, 1) := by decide +kernel
theorem dX2_visit_97 : decode cX2_visit 97 = .ok (.iload 7, 2) := by decide +kernel
theorem dX2_visit_99 : decode cX2_visit 99 = .ok (.iload 8, 2) := by decide +kernel
theorem dX2_visit_101 : decode cX2_visit 101 = .ok (.invokevirtual 104, 3) := by decide +kernel
theorem dX2_visit_104 : decode cX2_visit 104 = .ok (.aload_n 1, 1) := by decide +kernel
theorem dX2_visit_105 : decode cX2_visit 105 = .ok (.aload_n 1, 1) := by decide +kernel
theorem dX2_visit_106 : decode cX2_visit 106 = .ok (.getfield 34, 3) := by decide +kernel
theorem dX2_visit_109 : decode cX2_visit 109 = .ok (.iload 6, 2) := by decide +kernel
theorem dX2_visit_111 : decode cX2_visit 111 = .ok (.iload_n 3, 1) := by decide +kernel
theorem dX2_visit_112 : decode cX2_visit 112 = .ok (.iconst 5, 1) := by decide +kernel
theorem dX2_visit_113 : decode cX2_visit 113 = .ok (.invokevirtual 104, 3) := by decide +kernel
theorem dX2_visit_116 : decode cX2_visit 116 = .ok (.iconst 1, 1) := by decide +kernel
theorem dX2_visit_117 : decode cX2_visit 117 = .ok (.ireturn, 1) := by decide +kernel
theorem dX2_nearestPlace_0 : decode cX2_nearestPlace 0 = .ok (.aload_n 1, 1) := by decide +kernel
theorem dX2_nearestPlace_1 : decode cX2_nearestPlace 1 = .ok (.iload_n 2, 1) := by decide +kernel
theorem dX2_nearestPlace_2 : decode cX2_nearestPlace 2 = .ok (.invokevirtual 108, 3) := by decide +kernel
theorem dX2_nearestPlace_5 : decode cX2_nearestPlace 5 = .ok (.istore_n 3, 1) := by decide +kernel
theorem dX2_nearestPlace_6 : decode cX2_nearestPlace 6 = .ok (.aload_n 0, 1) := by decide +kernel
theorem dX2_nearestPlace_7 : decode cX2_nearestPlace 7 = .ok (.getfield 26, 3) := by decide +kernel
theorem dX2_nearestPlace_10 : decode cX2_nearestPlace 10 = .ok (.iload_n 2, 1) := by decide +kernel
theorem dX2_nearestPlace_11 : decode cX2_nearestPlace 11 = .ok (.invokevirtual 111, 3) := by decide +kernel
theorem dX2_nearestPlace_14 : decode cX2_nearestPlace 14 = .ok (.ifCond .eq 15, 3) := by decide +kernel
theorem dX2_nearestPlace_17 : decode cX2_nearestPlace 17 = .ok (.aload_n 0, 1) := by decide +kernel
theorem dX2_nearestPlace_18 : decode cX2_nearestPlace 18 = .ok (.getfield 26, 3) := by decide +kernel
theorem dX2_nearestPlace_21 : decode cX2_nearestPlace 21 = .ok (.iload_n 2, 1) := by decide +kernel
theorem dX2_nearestPlace_22 : decode cX2_nearestPlace 22 = .ok (.iload_n 3, 1) := by decide +kernel
theorem dX2_nearestPlace_23 : decode cX2_nearestPlace 23 = .ok (.invokevirtual 114, 3) := by decide +kernel
theorem dX2_nearestPlace_26 : decode cX2_nearestPlace 26 = .ok (.ifCond .eq 5, 3) := by decide +kernel
theorem dX2_nearestPlace_29 : decode cX2_nearestPlace 29 = .ok (.iconst (-1), 1) := by decide +kernel
theorem dX2_nearestPlace_30 : decode cX2_nearestPlace 30 = .ok (.ireturn, 1) := by decide +kernel
theorem dX2_nearestPlace_31 : decode cX2_nearestPlace 31 = .ok (.aload_n 0, 1) := by decide +kernel
theorem dX2_nearestPlace_32 : decode cX2_nearestPlace 32 = .ok (.getfield 26, 3) := by decide +kernel
theorem dX2_nearestPlace_35 : decode cX2_nearestPlace 35 = .ok (.iload_n 2, 1) := by decide +kernel
theorem dX2_nearestPlace_36 : decode cX2_nearestPlace 36 = .ok (.invokevirtual 91, 3) := by decide +kernel
theorem dX2_nearestPlace_39 : decode cX2_nearestPlace 39 = .ok (.iconst 4, 1) := by decide +kernel
theorem dX2_nearestPlace_40 : decode cX2_nearestPlace 40 = .ok (.if_icmp .ne 7, 3) := by decide +kernel
theorem dX2_nearestPlace_43 : decode cX2_nearestPlace 43 = .ok (.iconst 1, 1) := by decide +kernel
theorem dX2_nearestPlace_44 : decode cX2_nearestPlace 44 = .ok (.goto 5, 3) := by decide +kernel
theorem dX2_nearestPlace_47 : decode cX2_nearestPlace 47 = .ok (.bipush 6, 2) := by decide +kernel
theorem dX2_nearestPlace_49 : decode cX2_nearestPlace 49 = .ok (.istore 4, 2) := by decide +kernel
theorem dX2_nearestPlace_51 : decode cX2_nearestPlace 51 = .ok (.aload_n 0, 1) := by decide +kernel
theorem dX2_nearestPlace_52 : decode cX2_nearestPlace 52 = .ok (.getfield 26, 3) := by decide +kernel
theorem dX2_nearestPlace_55 : decode cX2_nearestPlace 55 = .ok (.iload_n 2, 1) := by decide +kernel
theorem dX2_nearestPlace_56 : decode cX2_nearestPlace 56 = .ok (.invokevirtual 118, 3) := by decide +kernel
theorem dX2_nearestPlace_59 : decode cX2_nearestPlace 59 = .ok (.istore 5, 2) := by decide +kernel
theorem dX2_nearestPlace_61 : decode cX2_nearestPlace 61 = .ok (.aload_n 0, 1) := by decide +kernel
theorem dX2_nearestPlace_62 : decode cX2_nearestPlace 62 = .ok (.getfield 26, 3) := by decide +kernel
theorem dX2_nearestPlace_65 : decode cX2_nearestPlace 65 = .ok (.iload_n 2, 1) := by decide +kernel
theorem dX2_nearestPlace_66 : decode cX2_nearestPlace 66 = .ok (.invokevirtual 121, 3) := by decide +kernel
theorem dX2_nearestPlace_69 : decode cX2_nearestPlace 69 = .ok (.istore 6, 2) := by decide +kernel
theorem dX2_nearestPlace_71 : decode cX2_nearestPlace 71 = .ok (.iconst (-1), 1) := by decide +kernel
theorem dX2_nearestPlace_72 : decode cX2_nearestPlace 72 = .ok (.istore 7, 2) := by decide +kernel
theorem dX2_nearestPlace_74 : decode cX2_nearestPlace 74 = .ok (.iload 6, 2) := by decide +kernel
theorem dX2_nearestPlace_76 : decode cX2_nearestPlace 76 = .ok (.iload 4, 2) := by decide +kernel
theorem dX2_nearestPlace_78 : decode cX2_nearestPlace 78 = .ok (.isub, 1) := by decide +kernel
theorem dX2_nearestPlace_79 : decode cX2_nearestPlace 79 = .ok (.istore 8, 2) := by decide +kernel
theorem dX2_nearestPlace_81 : decode cX2_nearestPlace 81 = .ok (.iload 8, 2) := by decide +kernel
theorem dX2_nearestPlace_83 : decode cX2_nearestPlace 83 = .ok (.iload 6, 2) := by decide +kernel
theorem dX2_nearestPlace_85 : decode cX2_nearestPlace 85 = .ok (.iload 4, 2) := by decide +kernel
theorem dX2_nearestPlace_87 : decode cX2_nearestPlace 87 = .ok (.iadd, 1) := by decide +kernel
theorem dX2_nearestPlace_88 : decode cX2_nearestPlace 88 = .ok (.if_icmp .gt 69, 3) := by decide +kernel
theorem dX2_nearestPlace_91 : decode cX2_nearestPlace 91 = .ok (.iload 5, 2) := by decide +kernel
theorem dX2_nearestPlace_93 : decode cX2_nearestPlace 93 = .ok (.iload 4, 2) := by decide +kernel
theorem dX2_nearestPlace_95 : decode cX2_nearestPlace 95 = .ok (.isub, 1) := by decide +kernel
theorem dX2_nearestPlace_96 : decode cX2_nearestPlace 96 = .ok (.istore 9, 2) := by decide +kernel
theorem dX2_nearestPlace_98 : decode cX2_nearestPlace 98 = .ok (.iload 9, 2) := by decide +kernel
theorem dX2_nearestPlace_100 : decode cX2_nearestPlace 100 = .ok (.iload 5, 2) := by decide +kernel
theorem dX2_nearestPlace_102 : decode cX2_nearestPlace 102 = .ok (.iload 4, 2) := by decide +kernel
theorem dX2_nearestPlace_104 : decode cX2_nearestPlace 104 = .ok (.iadd, 1) := by decide +kernel
theorem dX2_nearestPlace_105 : decode cX2_nearestPlace 105 = .ok (.if_icmp .gt 46, 3) := by decide +kernel
theorem dX2_nearestPlace_108 : decode cX2_nearestPlace 108 = .ok (.iload 9, 2) := by decide +kernel
theorem dX2_nearestPlace_110 : decode cX2_nearestPlace 110 = .ok (.iload 8, 2) := by decide +kernel
theorem dX2_nearestPlace_112 : decode cX2_nearestPlace 112 = .ok (.invokestatic 53, 3) := by decide +kernel
theorem dX2_nearestPlace_115 : decode cX2_nearestPlace 115 = .ok (.istore 10, 2) := by decide +kernel
theorem dX2_nearestPlace_117 : decode cX2_nearestPlace 117 = .ok (.aload_n 0, 1) := by decide +kernel
theorem dX2_nearestPlace_118 : decode cX2_nearestPlace 118 = .ok (.iload 10, 2) := by decide +kernel
theorem dX2_nearestPlace_120 : decode cX2_nearestPlace 120 = .ok (.iload 7, 2) := by decide +kernel
theorem dX2_nearestPlace_122 : decode cX2_nearestPlace 122 = .ok (.invokevirtual 124, 3) := by decide +kernel
theorem dX2_nearestPlace_125 : decode cX2_nearestPlace 125 = .ok (.ifCond .eq 20, 3) := by decide +kernel
theorem dX2_nearestPlace_128 : decode cX2_nearestPlace 128 = .ok (.aload_n 0, 1) := by decide +kernel
theorem dX2_nearestPlace_129 : decode cX2_nearestPlace 129 = .ok (.iload 9, 2) := by decide +kernel
theorem dX2_nearestPlace_131 : decode cX2_nearestPlace 131 = .ok (.iload 8, 2) := by decide +kernel
theorem dX2_nearestPlace_133 : decode cX2_nearestPlace 133 = .ok (.iload_n 2, 1) := by decide +kernel
theorem dX2_nearestPlace_134 : decode cX2_nearestPlace 134 = .ok (.iload_n 3, 1) := by decide +kernel
theorem dX2_nearestPlace_135 : decode cX2_nearestPlace 135 = .ok (.invokevirtual 127, 3) := by decide +kernel
theorem dX2_nearestPlace_138 : decode cX2_nearestPlace 138 = .ok (.ifCond .eq 7, 3) := by decide +kernel
theorem dX2_nearestPlace_141 : decode cX2_nearestPlace 141 = .ok (.iload 10, 2) := by decide +kernel
theorem dX2_nearestPlace_143 : decode cX2_nearestPlace 143 = .ok (.istore 7, 2) := by decide +kernel
theorem dX2_nearestPlace_145 : decode cX2_nearestPlace 145 = .ok (.iinc 9 1, 3) := by decide +kernel
theorem dX2_nearestPlace_148 : decode cX2_nearestPlace 148 = .ok (.goto (-50), 3) := by decide +kernel
theorem dX2_nearestPlace_151 : decode cX2_nearestPlace 151 = .ok (.iinc 8 1, 3) := by decide +kernel
theorem dX2_nearestPlace_154 : decode cX2_nearestPlace 154 = .ok (.goto (-73), 3) := by decide +kernel
theorem dX2_nearestPlace_157 : decode cX2_nearestPlace 157 = .ok (.iload 7, 2) := by decide +kernel
theorem dX2_nearestPlace_159 : decode cX2_nearestPlace 159 = .ok (.ireturn, 1) := by decide +kernel
theorem dX2_isNearer_0 : decode cX2_isNearer 0 = .ok (.aload_n 0, 1) := by decide +kernel
theorem dX2_isNearer_1 : decode cX2_isNearer 1 = .ok (.getfield 22, 3) := by decide +kernel
theorem dX2_isNearer_4 : decode cX2_isNearer 4 = .ok (.iload_n 1, 1) := by decide +kernel
theorem dX2_isNearer_5 : decode cX2_isNearer 5 = .ok (.invokevirtual 83, 3) := by decide +kernel
theorem dX2_isNearer_8 : decode cX2_isNearer 8 = .ok (.istore_n 3, 1) := by decide +kernel
theorem dX2_isNearer_9 : decode cX2_isNearer 9 = .ok (.iload_n 3, 1) := by decide +kernel
theorem dX2_isNearer_10 : decode cX2_isNearer 10 = .ok (.iconst (-1), 1) := by decide +kernel
theorem dX2_isNearer_11 : decode cX2_isNearer 11 = .ok (.if_icmp .eq 24, 3) := by decide +kernel
theorem dX2_isNearer_14 : decode cX2_isNearer 14 = .ok (.iload_n 2, 1) := by decide +kernel
theorem dX2_isNearer_15 : decode cX2_isNearer 15 = .ok (.iconst (-1), 1) := by decide +kernel
theorem dX2_isNearer_16 : decode cX2_isNearer 16 = .ok (.if_icmp .eq 15, 3) := by decide +kernel
theorem dX2_isNearer_19 : decode cX2_isNearer 19 = .ok (.iload_n 3, 1) := by decide +kernel
theorem dX2_isNearer_20 : decode cX2_isNearer 20 = .ok (.aload_n 0, 1) := by decide +kernel
theorem dX2_isNearer_21 : decode cX2_isNearer 21 = .ok (.getfield 22, 3) := by decide +kernel
theorem dX2_isNearer_24 : decode cX2_isNearer 24 = .ok (.iload_n 2, 1) := by decide +kernel
theorem dX2_isNearer_25 : decode cX2_isNearer 25 = .ok (.invokevirtual 83, 3) := by decide +kernel
theorem dX2_isNearer_28 : decode cX2_isNearer 28 = .ok (.if_icmp .ge 7, 3) := by decide +kernel
theorem dX2_isNearer_31 : decode cX2_isNearer 31 = .ok (.iconst 1, 1) := by decide +kernel
theorem dX2_isNearer_32 : decode cX2_isNearer 32 = .ok (.goto 4, 3) := by decide +kernel
theorem dX2_isNearer_35 : decode cX2_isNearer 35 = .ok (.iconst 0, 1) := by decide +kernel
theorem dX2_isNearer_36 : decode cX2_isNearer 36 = .ok (.ireturn, 1) := by decide +kernel
theorem dX2_serves_0 : decode cX2_serves 0 = .ok (.aload_n 0, 1) := by decide +kernel
theorem dX2_serves_1 : decode cX2_serves 1 = .ok (.getfield 26, 3) := by decide +kernel
theorem dX2_serves_4 : decode cX2_serves 4 = .ok (.iload_n 3, 1) := by decide +kernel
theorem dX2_serves_5 : decode cX2_serves 5 = .ok (.invokevirtual 91, 3) := by decide +kernel
theorem dX2_serves_8 : decode cX2_serves 8 = .ok (.iconst 4, 1) := by decide +kernel
theorem dX2_serves_9 : decode cX2_serves 9 = .ok (.if_icmp .ne 5, 3) := by decide +kernel
theorem dX2_serves_12 : decode cX2_serves 12 = .ok (.iconst 1, 1) := by decide +kernel
theorem dX2_serves_13 : decode cX2_serves 13 = .ok (.ireturn, 1) := by decide +kernel
theorem dX2_serves_14 : decode cX2_serves 14 = .ok (.aload_n 0, 1) := by decide +kernel
theorem dX2_serves_15 : decode cX2_serves 15 = .ok (.getfield 26, 3) := by decide +kernel
theorem dX2_serves_18 : decode cX2_serves 18 = .ok (.iload_n 3, 1) := by decide +kernel
theorem dX2_serves_19 : decode cX2_serves 19 = .ok (.invokevirtual 118, 3) := by decide +kernel
theorem dX2_serves_22 : decode cX2_serves 22 = .ok (.istore 5, 2) := by decide +kernel
theorem dX2_serves_24 : decode cX2_serves 24 = .ok (.aload_n 0, 1) := by decide +kernel
theorem dX2_serves_25 : decode cX2_serves 25 = .ok (.getfield 26, 3) := by decide +kernel
theorem dX2_serves_28 : decode cX2_serves 28 = .ok (.iload_n 3, 1) := by decide +kernel
theorem dX2_serves_29 : decode cX2_serves 29 = .ok (.invokevirtual 121, 3) := by decide +kernel
theorem dX2_serves_32 : decode cX2_serves 32 = .ok (.istore 6, 2) := by decide +kernel
theorem dX2_serves_34 : decode cX2_serves 34 = .ok (.iload_n 1, 1) := by decide +kernel
theorem dX2_serves_35 : decode cX2_serves 35 = .ok (.iload_n 2, 1) := by decide +kernel
theorem dX2_serves_36 : decode cX2_serves 36 = .ok (.iload 5, 2) := by decide +kernel
theorem dX2_serves_38 : decode cX2_serves 38 = .ok (.iload 6, 2) := by decide +kernel
theorem dX2_serves_40 : decode cX2_serves 40 = .ok (.invokestatic 131, 3) := by decide +kernel
theorem dX2_serves_43 : decode cX2_serves 43 = .ok (.istore 7, 2) := by decide +kernel
theorem dX2_serves_45 : decode cX2_serves 45 = .ok (.iload 4, 2) := by decide +kernel
theorem dX2_serves_47 : decode cX2_serves 47 = .ok (.iload 7, 2) := by decide +kernel
theorem dX2_serves_49 : decode cX2_serves 49 = .ok (.ishr, 1) := by decide +kernel
theorem dX2_serves_50 : decode cX2_serves 50 = .ok (.iconst 1, 1) := by decide +kernel
theorem dX2_serves_51 : decode cX2_serves 51 = .ok (.iand, 1) := by decide +kernel
theorem dX2_serves_52 : decode cX2_serves 52 = .ok (.ifCond .ne 23, 3) := by decide +kernel
theorem dX2_serves_55 : decode cX2_serves 55 = .ok (.aload_n 0, 1) := by decide +kernel
theorem dX2_serves_56 : decode cX2_serves 56 = .ok (.getfield 18, 3) := by decide +kernel
theorem dX2_serves_59 : decode cX2_serves 59 = .ok (.iload_n 1, 1) := by decide +kernel
theorem dX2_serves_60 : decode cX2_serves 60 = .ok (.iload_n 2, 1) := by decide +kernel
theorem dX2_serves_61 : decode cX2_serves 61 = .ok (.iload 5, 2) := by decide +kernel
theorem dX2_serves_63 : decode cX2_serves 63 = .ok (.iload 6, 2) := by decide +kernel
theorem dX2_serves_65 : decode cX2_serves 65 = .ok (.invokevirtual 135, 3) := by decide +kernel
theorem dX2_serves_68 : decode cX2_serves 68 = .ok (.ifCond .eq 7, 3) := by decide +kernel
theorem dX2_serves_71 : decode cX2_serves 71 = .ok (.iconst 1, 1) := by decide +kernel
theorem dX2_serves_72 : decode cX2_serves 72 = .ok (.goto 4, 3) := by decide +kernel
theorem dX2_serves_75 : decode cX2_serves 75 = .ok (.iconst 0, 1) := by decide +kernel
theorem dX2_serves_76 : decode cX2_serves 76 = .ok (.ireturn, 1) := by decide +kernel
theorem dX4_init_0 : decode cX4_init 0 = .ok (.aload_n 0, 1) := by decide +kernel
theorem dX4_init_1 : decode cX4_init 1 = .ok (.invokespecial 3, 3) := by decide +kernel
theorem dX4_init_4 : decode cX4_init 4 = .ok (.aload_n 0, 1) := by decide +kernel
theorem dX4_init_5 : decode cX4_init 5 = .ok (.bipush 6, 2) := by decide +kernel
theorem dX4_init_7 : decode cX4_init 7 = .ok (.newarray .int, 2) := by decide +kernel
theorem dX4_init_9 : decode cX4_init 9 = .ok (.putfield 9, 3) := by decide +kernel
theorem dX4_init_12 : decode cX4_init 12 = .ok (.aload_n 0, 1) := by decide +kernel
theorem dX4_init_13 : decode cX4_init 13 = .ok (.bipush 6, 2) := by decide +kernel
theorem dX4_init_15 : decode cX4_init 15 = .ok (.newarray .int, 2) := by decide +kernel
theorem dX4_init_17 : decode cX4_init 17 = .ok (.putfield 15, 3) := by decide +kernel
theorem dX4_init_20 : decode cX4_init 20 = .ok (.aload_n 0, 1) := by decide +kernel
theorem dX4_init_21 : decode cX4_init 21 = .ok (.bipush 6, 2) := by decide +kernel
theorem dX4_init_23 : decode cX4_init 23 = .ok (.newarray .int, 2) := by decide +kernel
theorem dX4_init_25 : decode cX4_init 25 = .ok (.putfield 18, 3) := by decide +kernel
theorem dX4_init_28 : decode cX4_init 28 = .ok (.return_, 1) := by decide +kernel
theorem dX4_isFull_0 : decode cX4_isFull 0 = .ok (.aload_n 0, 1) := by decide +kernel
theorem dX4_isFull_1 : decode cX4_isFull 1 = .ok (.getfield 21, 3) := by decide +kernel
theorem dX4_isFull_4 : decode cX4_isFull 4 = .ok (.bipush 6, 2) := by decide +kernel
theorem dX4_isFull_6 : decode cX4_isFull 6 = .ok (.if_icmp .lt 7, 3) := by decide +kernel
theorem dX4_isFull_9 : decode cX4_isFull 9 = .ok (.iconst 1, 1) := by decide +kernel
theorem dX4_isFull_10 : decode cX4_isFull 10 = .ok (.goto 4, 3) := by decide +kernel
theorem dX4_isFull_13 : decode cX4_isFull 13 = .ok (.iconst 0, 1) := by decide +kernel
theorem dX4_isFull_14 : decode cX4_isFull 14 = .ok (.ireturn, 1) := by decide +kernel
theorem dX4_append_0 : decode cX4_append 0 = .ok (.aload_n 0, 1) := by decide +kernel
theorem dX4_append_1 : decode cX4_append 1 = .ok (.invokevirtual 25, 3) := by decide +kernel
theorem dX4_append_4 : decode cX4_append 4 = .ok (.ifCond .ne 50, 3) := by decide +kernel
theorem dX4_append_7 : decode cX4_append 7 = .ok (.aload_n 0, 1) := by decide +kernel
theorem dX4_append_8 : decode cX4_append 8 = .ok (.getfield 21, 3) := by decide +kernel
theorem dX4_append_11 : decode cX4_append 11 = .ok (.ifCond .lt 43, 3) := by decide +kernel
theorem dX4_append_14 : decode cX4_append 14 = .ok (.aload_n 0, 1) := by decide +kernel
theorem dX4_append_15 : decode cX4_append 15 = .ok (.getfield 9, 3) := by decide +kernel
theorem dX4_append_18 : decode cX4_append 18 = .ok (.aload_n 0, 1) := by decide +kernel
theorem dX4_append_19 : decode cX4_append 19 = .ok (.getfield 21, 3) := by decide +kernel
theorem dX4_append_22 : decode cX4_append 22 = .ok (.iload_n 1, 1) := by decide +kernel
theorem dX4_append_23 : decode cX4_append 23 = .ok (.iastore, 1) := by decide +kernel
theorem dX4_append_24 : decode cX4_append 24 = .ok (.aload_n 0, 1) := by decide +kernel
theorem dX4_append_25 : decode cX4_append 25 = .ok (.getfield 15, 3) := by decide +kernel
theorem dX4_append_28 : decode cX4_append 28 = .ok (.aload_n 0, 1) := by decide +kernel
theorem dX4_append_29 : decode cX4_append 29 = .ok (.getfield 21, 3) := by decide +kernel
theorem dX4_append_32 : decode cX4_append 32 = .ok (.iload_n 2, 1) := by decide +kernel
theorem dX4_append_33 : decode cX4_append 33 = .ok (.iastore, 1) := by decide +kernel
theorem dX4_append_34 : decode cX4_append 34 = .ok (.aload_n 0, 1) := by decide +kernel
theorem dX4_append_35 : decode cX4_append 35 = .ok (.getfield 18, 3) := by decide +kernel
theorem dX4_append_38 : decode cX4_append 38 = .ok (.aload_n 0, 1) := by decide +kernel
theorem dX4_append_39 : decode cX4_append 39 = .ok (.getfield 21, 3) := by decide +kernel
theorem dX4_append_42 : decode cX4_append 42 = .ok (.iload_n 3, 1) := by decide +kernel
theorem dX4_append_43 : decode cX4_append 43 = .ok (.iastore, 1) := by decide +kernel
theorem dX4_append_44 : decode cX4_append 44 = .ok (.aload_n 0, 1) := by decide +kernel
theorem dX4_append_45 : decode cX4_append 45 = .ok (.dup, 1) := by decide +kernel
theorem dX4_append_46 : decode cX4_append 46 = .ok (.getfield 21, 3) := by decide +kernel
theorem dX4_append_49 : decode cX4_append 49 = .ok (.iconst 1, 1) := by decide +kernel
theorem dX4_append_50 : decode cX4_append 50 = .ok (.iadd, 1) := by decide +kernel
theorem dX4_append_51 : decode cX4_append 51 = .ok (.putfield 21, 3) := by decide +kernel
theorem dX4_append_54 : decode cX4_append 54 = .ok (.aload_n 0, 1) := by decide +kernel
theorem dX4_append_55 : decode cX4_append 55 = .ok (.getfield 21, 3) := by decide +kernel
theorem dX4_append_58 : decode cX4_append 58 = .ok (.ireturn, 1) := by decide +kernel
theorem dX4_rateAt_0 : decode cX4_rateAt 0 = .ok (.iconst 0, 1) := by decide +kernel
theorem dX4_rateAt_1 : decode cX4_rateAt 1 = .ok (.istore_n 2, 1) := by decide +kernel
theorem dX4_rateAt_2 : decode cX4_rateAt 2 = .ok (.iconst 0, 1) := by decide +kernel
theorem dX4_rateAt_3 : decode cX4_rateAt 3 = .ok (.istore_n 3, 1) := by decide +kernel
theorem dX4_rateAt_4 : decode cX4_rateAt 4 = .ok (.iload_n 3, 1) := by decide +kernel
theorem dX4_rateAt_5 : decode cX4_rateAt 5 = .ok (.aload_n 0, 1) := by decide +kernel
theorem dX4_rateAt_6 : decode cX4_rateAt 6 = .ok (.getfield 21, 3) := by decide +kernel
theorem dX4_rateAt_9 : decode cX4_rateAt 9 = .ok (.if_icmp .ge 46, 3) := by decide +kernel
theorem dX4_rateAt_12 : decode cX4_rateAt 12 = .ok (.iload_n 3, 1) := by decide +kernel
theorem dX4_rateAt_13 : decode cX4_rateAt 13 = .ok (.bipush 6, 2) := by decide +kernel
theorem dX4_rateAt_15 : decode cX4_rateAt 15 = .ok (.if_icmp .ge 40, 3) := by decide +kernel
theorem dX4_rateAt_18 : decode cX4_rateAt 18 = .ok (.aload_n 0, 1) := by decide +kernel
theorem dX4_rateAt_19 : decode cX4_rateAt 19 = .ok (.getfield 9, 3) := by decide +kernel
theorem dX4_rateAt_22 : decode cX4_rateAt 22 = .ok (.iload_n 3, 1) := by decide +kernel
theorem dX4_rateAt_23 : decode cX4_rateAt 23 = .ok (.iaload, 1) := by decide +kernel
theorem dX4_rateAt_24 : decode cX4_rateAt 24 = .ok (.iload_n 1, 1) := by decide +kernel
theorem dX4_rateAt_25 : decode cX4_rateAt 25 = .ok (.if_icmp .gt 24, 3) := by decide +kernel
theorem dX4_rateAt_28 : decode cX4_rateAt 28 = .ok (.iload_n 1, 1) := by decide +kernel
theorem dX4_rateAt_29 : decode cX4_rateAt 29 = .ok (.aload_n 0, 1) := by decide +kernel
theorem dX4_rateAt_30 : decode cX4_rateAt 30 = .ok (.getfield 15, 3) := by decide +kernel
theorem dX4_rateAt_33 : decode cX4_rateAt 33 = .ok (.iload_n 3, 1) := by decide +kernel
theorem dX4_rateAt_34 : decode cX4_rateAt 34 = .ok (.iaload, 1) := by decide +kernel
theorem dX4_rateAt_35 : decode cX4_rateAt 35 = .ok (.if_icmp .ge 14, 3) := by decide +kernel
theorem dX4_rateAt_38 : decode cX4_rateAt 38 = .ok (.iload_n 2, 1) := by decide +kernel
theorem dX4_rateAt_39 : decode cX4_rateAt 39 = .ok (.aload_n 0, 1) := by decide +kernel
theorem dX4_rateAt_40 : decode cX4_rateAt 40 = .ok (.getfield 18, 3) := by decide +kernel
theorem dX4_rateAt_43 : decode cX4_rateAt 43 = .ok (.iload_n 3, 1) := by decide +kernel
theorem dX4_rateAt_44 : decode cX4_rateAt 44 = .ok (.iaload, 1) := by decide +kernel
theorem dX4_rateAt_45 : decode cX4_rateAt 45 = .ok (.invokestatic 29, 3) := by decide +kernel
theorem dX4_rateAt_48 : decode cX4_rateAt 48 = .ok (.istore_n 2, 1) := by decide +kernel
theorem dX4_rateAt_49 : decode cX4_rateAt 49 = .ok (.iinc 3 1, 3) := by decide +kernel
theorem dX4_rateAt_52 : decode cX4_rateAt 52 = .ok (.goto (-48), 3) := by decide +kernel
theorem dX4_rateAt_55 : decode cX4_rateAt 55 = .ok (.iload_n 2, 1) := by decide +kernel
theorem dX4_rateAt_56 : decode cX4_rateAt 56 = .ok (.ireturn, 1) := by decide +kernel
theorem dX5_init_0 : decode cX5_init 0 = .ok (.aload_n 0, 1) := by decide +kernel
theorem dX5_init_1 : decode cX5_init 1 = .ok (.invokespecial 3, 3) := by decide +kernel
theorem dX5_init_4 : decode cX5_init 4 = .ok (.aload_n 0, 1) := by decide +kernel
theorem dX5_init_5 : decode cX5_init 5 = .ok (.bipush 40, 2) := by decide +kernel
theorem dX5_init_7 : decode cX5_init 7 = .ok (.newarray .int, 2) := by decide +kernel
theorem dX5_init_9 : decode cX5_init 9 = .ok (.putfield 9, 3) := by decide +kernel
theorem dX5_init_12 : decode cX5_init 12 = .ok (.aload_n 0, 1) := by decide +kernel
theorem dX5_init_13 : decode cX5_init 13 = .ok (.bipush 40, 2) := by decide +kernel
theorem dX5_init_15 : decode cX5_init 15 = .ok (.newarray .int, 2) := by decide +kernel
theorem dX5_init_17 : decode cX5_init 17 = .ok (.putfield 15, 3) := by decide +kernel
theorem dX5_init_20 : decode cX5_init 20 = .ok (.aload_n 0, 1) := by decide +kernel

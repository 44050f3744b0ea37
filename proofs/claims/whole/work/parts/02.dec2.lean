theorem dX7_init_182 : decode cX7_init 182 = .ok (.return_, 1) := by decide +kernel
theorem dX7_fails_0 : decode cX7_fails 0 = .ok (.aload_n 0, 1) := by decide +kernel
theorem dX7_fails_1 : decode cX7_fails 1 = .ok (.iload_n 1, 1) := by decide +kernel
theorem dX7_fails_2 : decode cX7_fails 2 = .ok (.putfield 74, 3) := by decide +kernel
theorem dX7_fails_5 : decode cX7_fails 5 = .ok (.bipush (-10), 2) := by decide +kernel
theorem dX7_fails_7 : decode cX7_fails 7 = .ok (.iload_n 1, 1) := by decide +kernel
theorem dX7_fails_8 : decode cX7_fails 8 = .ok (.isub, 1) := by decide +kernel
theorem dX7_fails_9 : decode cX7_fails 9 = .ok (.ireturn, 1) := by decide +kernel
theorem dX7_lost_0 : decode cX7_lost 0 = .ok (.aload_n 0, 1) := by decide +kernel
theorem dX7_lost_1 : decode cX7_lost 1 = .ok (.iload_n 1, 1) := by decide +kernel
theorem dX7_lost_2 : decode cX7_lost 2 = .ok (.putfield 74, 3) := by decide +kernel
theorem dX7_lost_5 : decode cX7_lost 5 = .ok (.ldc2_w 78, 3) := by decide +kernel
theorem dX7_lost_8 : decode cX7_lost 8 = .ok (.lreturn, 1) := by decide +kernel
theorem dX7_within_0 : decode cX7_within 0 = .ok (.iload_n 0, 1) := by decide +kernel
theorem dX7_within_1 : decode cX7_within 1 = .ok (.iload_n 1, 1) := by decide +kernel
theorem dX7_within_2 : decode cX7_within 2 = .ok (.if_icmp .lt 12, 3) := by decide +kernel
theorem dX7_within_5 : decode cX7_within 5 = .ok (.iload_n 0, 1) := by decide +kernel
theorem dX7_within_6 : decode cX7_within 6 = .ok (.iload_n 2, 1) := by decide +kernel
theorem dX7_within_7 : decode cX7_within 7 = .ok (.if_icmp .gt 7, 3) := by decide +kernel
theorem dX7_within_10 : decode cX7_within 10 = .ok (.iconst 1, 1) := by decide +kernel
theorem dX7_within_11 : decode cX7_within 11 = .ok (.goto 4, 3) := by decide +kernel
theorem dX7_within_14 : decode cX7_within 14 = .ok (.iconst 0, 1) := by decide +kernel
theorem dX7_within_15 : decode cX7_within 15 = .ok (.ireturn, 1) := by decide +kernel
theorem dX7_isSheet_0 : decode cX7_isSheet 0 = .ok (.iload_n 0, 1) := by decide +kernel
theorem dX7_isSheet_1 : decode cX7_isSheet 1 = .ok (.iconst 0, 1) := by decide +kernel
theorem dX7_isSheet_2 : decode cX7_isSheet 2 = .ok (.iconst 3, 1) := by decide +kernel
theorem dX7_isSheet_3 : decode cX7_isSheet 3 = .ok (.invokestatic 80, 3) := by decide +kernel
theorem dX7_isSheet_6 : decode cX7_isSheet 6 = .ok (.ireturn, 1) := by decide +kernel
theorem dX7_isSort_0 : decode cX7_isSort 0 = .ok (.iload_n 0, 1) := by decide +kernel
theorem dX7_isSort_1 : decode cX7_isSort 1 = .ok (.iconst 0, 1) := by decide +kernel
theorem dX7_isSort_2 : decode cX7_isSort 2 = .ok (.iconst 2, 1) := by decide +kernel
theorem dX7_isSort_3 : decode cX7_isSort 3 = .ok (.invokestatic 80, 3) := by decide +kernel
theorem dX7_isSort_6 : decode cX7_isSort 6 = .ok (.ireturn, 1) := by decide +kernel
theorem dX7_against_0 : decode cX7_against 0 = .ok (.aload_n 0, 1) := by decide +kernel
theorem dX7_against_1 : decode cX7_against 1 = .ok (.getfield 9, 3) := by decide +kernel
theorem dX7_against_4 : decode cX7_against 4 = .ok (.iload_n 1, 1) := by decide +kernel
theorem dX7_against_5 : decode cX7_against 5 = .ok (.iaload, 1) := by decide +kernel
theorem dX7_against_6 : decode cX7_against 6 = .ok (.bipush (-9), 2) := by decide +kernel
theorem dX7_against_8 : decode cX7_against 8 = .ok (.if_icmp .eq 15, 3) := by decide +kernel
theorem dX7_against_11 : decode cX7_against 11 = .ok (.aload_n 0, 1) := by decide +kernel
theorem dX7_against_12 : decode cX7_against 12 = .ok (.getfield 9, 3) := by decide +kernel
theorem dX7_against_15 : decode cX7_against 15 = .ok (.iload_n 1, 1) := by decide +kernel
theorem dX7_against_16 : decode cX7_against 16 = .ok (.iaload, 1) := by decide +kernel
theorem dX7_against_17 : decode cX7_against 17 = .ok (.iload_n 2, 1) := by decide +kernel
theorem dX7_against_18 : decode cX7_against 18 = .ok (.if_icmp .eq 5, 3) := by decide +kernel
theorem dX7_against_21 : decode cX7_against 21 = .ok (.iconst 2, 1) := by decide +kernel
theorem dX7_against_22 : decode cX7_against 22 = .ok (.ireturn, 1) := by decide +kernel
theorem dX7_against_23 : decode cX7_against 23 = .ok (.aload_n 0, 1) := by decide +kernel
theorem dX7_against_24 : decode cX7_against 24 = .ok (.getfield 9, 3) := by decide +kernel
theorem dX7_against_27 : decode cX7_against 27 = .ok (.iload_n 1, 1) := by decide +kernel
theorem dX7_against_28 : decode cX7_against 28 = .ok (.iaload, 1) := by decide +kernel
theorem dX7_against_29 : decode cX7_against 29 = .ok (.bipush (-9), 2) := by decide +kernel
theorem dX7_against_31 : decode cX7_against 31 = .ok (.if_icmp .ne 5, 3) := by decide +kernel
theorem dX7_against_34 : decode cX7_against 34 = .ok (.iconst 1, 1) := by decide +kernel
theorem dX7_against_35 : decode cX7_against 35 = .ok (.ireturn, 1) := by decide +kernel
theorem dX7_against_36 : decode cX7_against 36 = .ok (.iload 4, 2) := by decide +kernel
theorem dX7_against_38 : decode cX7_against 38 = .ok (.ifCond .ge 5, 3) := by decide +kernel
theorem dX7_against_41 : decode cX7_against 41 = .ok (.iconst 4, 1) := by decide +kernel
theorem dX7_against_42 : decode cX7_against 42 = .ok (.ireturn, 1) := by decide +kernel
theorem dX7_against_43 : decode cX7_against 43 = .ok (.iload_n 3, 1) := by decide +kernel
theorem dX7_against_44 : decode cX7_against 44 = .ok (.ifCond .lt 26, 3) := by decide +kernel
theorem dX7_against_47 : decode cX7_against 47 = .ok (.iload_n 3, 1) := by decide +kernel
theorem dX7_against_48 : decode cX7_against 48 = .ok (.aload_n 0, 1) := by decide +kernel
theorem dX7_against_49 : decode cX7_against 49 = .ok (.getfield 13, 3) := by decide +kernel
theorem dX7_against_52 : decode cX7_against 52 = .ok (.iload_n 1, 1) := by decide +kernel
theorem dX7_against_53 : decode cX7_against 53 = .ok (.iaload, 1) := by decide +kernel
theorem dX7_against_54 : decode cX7_against 54 = .ok (.if_icmp .gt 16, 3) := by decide +kernel
theorem dX7_against_57 : decode cX7_against 57 = .ok (.iload 4, 2) := by decide +kernel
theorem dX7_against_59 : decode cX7_against 59 = .ok (.aload_n 0, 1) := by decide +kernel
theorem dX7_against_60 : decode cX7_against 60 = .ok (.getfield 13, 3) := by decide +kernel
theorem dX7_against_63 : decode cX7_against 63 = .ok (.iload_n 1, 1) := by decide +kernel
theorem dX7_against_64 : decode cX7_against 64 = .ok (.iaload, 1) := by decide +kernel
theorem dX7_against_65 : decode cX7_against 65 = .ok (.iload_n 3, 1) := by decide +kernel
theorem dX7_against_66 : decode cX7_against 66 = .ok (.isub, 1) := by decide +kernel
theorem dX7_against_67 : decode cX7_against 67 = .ok (.if_icmp .le 7, 3) := by decide +kernel
theorem dX7_against_70 : decode cX7_against 70 = .ok (.iconst 3, 1) := by decide +kernel
theorem dX7_against_71 : decode cX7_against 71 = .ok (.goto 4, 3) := by decide +kernel
theorem dX7_against_74 : decode cX7_against 74 = .ok (.iconst 0, 1) := by decide +kernel
theorem dX7_against_75 : decode cX7_against 75 = .ok (.ireturn, 1) := by decide +kernel
theorem dX7_isMacro_0 : decode cX7_isMacro 0 = .ok (.iload_n 1, 1) := by decide +kernel
theorem dX7_isMacro_1 : decode cX7_isMacro 1 = .ok (.ifCond .lt 15, 3) := by decide +kernel
theorem dX7_isMacro_4 : decode cX7_isMacro 4 = .ok (.iload_n 1, 1) := by decide +kernel
theorem dX7_isMacro_5 : decode cX7_isMacro 5 = .ok (.aload_n 0, 1) := by decide +kernel
theorem dX7_isMacro_6 : decode cX7_isMacro 6 = .ok (.getfield 84, 3) := by decide +kernel
theorem dX7_isMacro_9 : decode cX7_isMacro 9 = .ok (.if_icmp .ge 7, 3) := by decide +kernel
theorem dX7_isMacro_12 : decode cX7_isMacro 12 = .ok (.iconst 1, 1) := by decide +kernel
theorem dX7_isMacro_13 : decode cX7_isMacro 13 = .ok (.goto 4, 3) := by decide +kernel
theorem dX7_isMacro_16 : decode cX7_isMacro 16 = .ok (.iconst 0, 1) := by decide +kernel
theorem dX7_isMacro_17 : decode cX7_isMacro 17 = .ok (.ireturn, 1) := by decide +kernel
theorem dX7_keyBy_0 : decode cX7_keyBy 0 = .ok (.iload_n 0, 1) := by decide +kernel
theorem dX7_keyBy_1 : decode cX7_keyBy 1 = .ok (.bipush 97, 2) := by decide +kernel
theorem dX7_keyBy_3 : decode cX7_keyBy 3 = .ok (.bipush 100, 2) := by decide +kernel
theorem dX7_keyBy_5 : decode cX7_keyBy 5 = .ok (.invokestatic 80, 3) := by decide +kernel
theorem dX7_keyBy_8 : decode cX7_keyBy 8 = .ok (.ifCond .eq 8, 3) := by decide +kernel
theorem dX7_keyBy_11 : decode cX7_keyBy 11 = .ok (.iload_n 0, 1) := by decide +kernel
theorem dX7_keyBy_12 : decode cX7_keyBy 12 = .ok (.bipush 97, 2) := by decide +kernel
theorem dX7_keyBy_14 : decode cX7_keyBy 14 = .ok (.isub, 1) := by decide +kernel
theorem dX7_keyBy_15 : decode cX7_keyBy 15 = .ok (.ireturn, 1) := by decide +kernel
theorem dX7_keyBy_16 : decode cX7_keyBy 16 = .ok (.iload_n 0, 1) := by decide +kernel
theorem dX7_keyBy_17 : decode cX7_keyBy 17 = .ok (.bipush 48, 2) := by decide +kernel
theorem dX7_keyBy_19 : decode cX7_keyBy 19 = .ok (.bipush 47, 2) := by decide +kernel
theorem dX7_keyBy_21 : decode cX7_keyBy 21 = .ok (.iload_n 1, 1) := by decide +kernel
theorem dX7_keyBy_22 : decode cX7_keyBy 22 = .ok (.iadd, 1) := by decide +kernel
theorem dX7_keyBy_23 : decode cX7_keyBy 23 = .ok (.invokestatic 80, 3) := by decide +kernel
theorem dX7_keyBy_26 : decode cX7_keyBy 26 = .ok (.ifCond .eq 11, 3) := by decide +kernel
theorem dX7_keyBy_29 : decode cX7_keyBy 29 = .ok (.iload_n 0, 1) := by decide +kernel
theorem dX7_keyBy_30 : decode cX7_keyBy 30 = .ok (.bipush 48, 2) := by decide +kernel
theorem dX7_keyBy_32 : decode cX7_keyBy 32 = .ok (.isub, 1) := by decide +kernel
theorem dX7_keyBy_33 : decode cX7_keyBy 33 = .ok (.bipush 8, 2) := by decide +kernel
theorem dX7_keyBy_35 : decode cX7_keyBy 35 = .ok (.iadd, 1) := by decide +kernel
theorem dX7_keyBy_36 : decode cX7_keyBy 36 = .ok (.ireturn, 1) := by decide +kernel
theorem dX7_keyBy_37 : decode cX7_keyBy 37 = .ok (.iload_n 0, 1) := by decide +kernel
theorem dX7_keyBy_38 : decode cX7_keyBy 38 = .ok (.bipush 60, 2) := by decide +kernel
theorem dX7_keyBy_40 : decode cX7_keyBy 40 = .ok (.if_icmp .ne 7, 3) := by decide +kernel
theorem dX7_keyBy_43 : decode cX7_keyBy 43 = .ok (.iconst 4, 1) := by decide +kernel
theorem dX7_keyBy_44 : decode cX7_keyBy 44 = .ok (.goto 37, 3) := by decide +kernel
theorem dX7_keyBy_47 : decode cX7_keyBy 47 = .ok (.iload_n 0, 1) := by decide +kernel
theorem dX7_keyBy_48 : decode cX7_keyBy 48 = .ok (.bipush 62, 2) := by decide +kernel
theorem dX7_keyBy_50 : decode cX7_keyBy 50 = .ok (.if_icmp .ne 7, 3) := by decide +kernel
theorem dX7_keyBy_53 : decode cX7_keyBy 53 = .ok (.iconst 5, 1) := by decide +kernel
theorem dX7_keyBy_54 : decode cX7_keyBy 54 = .ok (.goto 27, 3) := by decide +kernel
theorem dX7_keyBy_57 : decode cX7_keyBy 57 = .ok (.iload_n 0, 1) := by decide +kernel
theorem dX7_keyBy_58 : decode cX7_keyBy 58 = .ok (.bipush 120, 2) := by decide +kernel
theorem dX7_keyBy_60 : decode cX7_keyBy 60 = .ok (.if_icmp .ne 8, 3) := by decide +kernel
theorem dX7_keyBy_63 : decode cX7_keyBy 63 = .ok (.bipush 6, 2) := by decide +kernel
theorem dX7_keyBy_65 : decode cX7_keyBy 65 = .ok (.goto 16, 3) := by decide +kernel
theorem dX7_keyBy_68 : decode cX7_keyBy 68 = .ok (.iload_n 0, 1) := by decide +kernel
theorem dX7_keyBy_69 : decode cX7_keyBy 69 = .ok (.bipush 104, 2) := by decide +kernel
theorem dX7_keyBy_71 : decode cX7_keyBy 71 = .ok (.if_icmp .ne 8, 3) := by decide +kernel
theorem dX7_keyBy_74 : decode cX7_keyBy 74 = .ok (.bipush 7, 2) := by decide +kernel
theorem dX7_keyBy_76 : decode cX7_keyBy 76 = .ok (.goto 5, 3) := by decide +kernel
theorem dX7_keyBy_79 : decode cX7_keyBy 79 = .ok (.bipush (-9), 2) := by decide +kernel
theorem dX7_keyBy_81 : decode cX7_keyBy 81 = .ok (.ireturn, 1) := by decide +kernel
theorem dX7_macros_0 : decode cX7_macros 0 = .ok (.aload_n 0, 1) := by decide +kernel
theorem dX7_macros_1 : decode cX7_macros 1 = .ok (.iconst 0, 1) := by decide +kernel
theorem dX7_macros_2 : decode cX7_macros 2 = .ok (.putfield 74, 3) := by decide +kernel
theorem dX7_macros_5 : decode cX7_macros 5 = .ok (.iload_n 1, 1) := by decide +kernel
theorem dX7_macros_6 : decode cX7_macros 6 = .ok (.invokestatic 87, 3) := by decide +kernel
theorem dX7_macros_9 : decode cX7_macros 9 = .ok (.ifCond .ne 5, 3) := by decide +kernel
theorem dX7_macros_12 : decode cX7_macros 12 = .ok (.iconst (-1), 1) := by decide +kernel
theorem dX7_macros_13 : decode cX7_macros 13 = .ok (.ireturn, 1) := by decide +kernel
theorem dX7_macros_14 : decode cX7_macros 14 = .ok (.iload_n 2, 1) := by decide +kernel
theorem dX7_macros_15 : decode cX7_macros 15 = .ok (.invokestatic 91, 3) := by decide +kernel
theorem dX7_macros_18 : decode cX7_macros 18 = .ok (.ifCond .ne 6, 3) := by decide +kernel
theorem dX7_macros_21 : decode cX7_macros 21 = .ok (.bipush (-2), 2) := by decide +kernel
theorem dX7_macros_23 : decode cX7_macros 23 = .ok (.ireturn, 1) := by decide +kernel
theorem dX7_macros_24 : decode cX7_macros 24 = .ok (.aload_n 0, 1) := by decide +kernel
theorem dX7_macros_25 : decode cX7_macros 25 = .ok (.iload_n 1, 1) := by decide +kernel
theorem dX7_macros_26 : decode cX7_macros 26 = .ok (.iload_n 2, 1) := by decide +kernel
theorem dX7_macros_27 : decode cX7_macros 27 = .ok (.iload_n 3, 1) := by decide +kernel
theorem dX7_macros_28 : decode cX7_macros 28 = .ok (.iload 4, 2) := by decide +kernel
theorem dX7_macros_30 : decode cX7_macros 30 = .ok (.invokevirtual 94, 3) := by decide +kernel
theorem dX7_macros_33 : decode cX7_macros 33 = .ok (.istore 5, 2) := by decide +kernel
theorem dX7_macros_35 : decode cX7_macros 35 = .ok (.iload 5, 2) := by decide +kernel
theorem dX7_macros_37 : decode cX7_macros 37 = .ok (.ifCond .eq 10, 3) := by decide +kernel
theorem dX7_macros_40 : decode cX7_macros 40 = .ok (.aload_n 0, 1) := by decide +kernel
theorem dX7_macros_41 : decode cX7_macros 41 = .ok (.iload 5, 2) := by decide +kernel
theorem dX7_macros_43 : decode cX7_macros 43 = .ok (.invokevirtual 98, 3) := by decide +kernel
theorem dX7_macros_46 : decode cX7_macros 46 = .ok (.ireturn, 1) := by decide +kernel
theorem dX7_macros_47 : decode cX7_macros 47 = .ok (.bipush 60, 2) := by decide +kernel
theorem dX7_macros_49 : decode cX7_macros 49 = .ok (.iload_n 1, 1) := by decide +kernel
theorem dX7_macros_50 : decode cX7_macros 50 = .ok (.imul, 1) := by decide +kernel
theorem dX7_macros_51 : decode cX7_macros 51 = .ok (.iload_n 3, 1) := by decide +kernel
theorem dX7_macros_52 : decode cX7_macros 52 = .ok (.iadd, 1) := by decide +kernel
theorem dX7_macros_53 : decode cX7_macros 53 = .ok (.istore 6, 2) := by decide +kernel
theorem dX7_macros_55 : decode cX7_macros 55 = .ok (.aload_n 0, 1) := by decide +kernel
theorem dX7_macros_56 : decode cX7_macros 56 = .ok (.iload 6, 2) := by decide +kernel
theorem dX7_macros_58 : decode cX7_macros 58 = .ok (.putfield 102, 3) := by decide +kernel
theorem dX7_macros_61 : decode cX7_macros 61 = .ok (.aload_n 0, 1) := by decide +kernel
theorem dX7_macros_62 : decode cX7_macros 62 = .ok (.iload 6, 2) := by decide +kernel
theorem dX7_macros_64 : decode cX7_macros 64 = .ok (.iload 4, 2) := by decide +kernel
theorem dX7_macros_66 : decode cX7_macros 66 = .ok (.iadd, 1) := by decide +kernel
theorem dX7_macros_67 : decode cX7_macros 67 = .ok (.invokevirtual 105, 3) := by decide +kernel
theorem dX7_macros_70 : decode cX7_macros 70 = .ok (.ifCond .ne 14, 3) := by decide +kernel
theorem dX7_macros_73 : decode cX7_macros 73 = .ok (.bipush (-100), 2) := by decide +kernel
theorem dX7_macros_75 : decode cX7_macros 75 = .ok (.aload_n 0, 1) := by decide +kernel
theorem dX7_macros_76 : decode cX7_macros 76 = .ok (.getfield 102, 3) := by decide +kernel
theorem dX7_macros_79 : decode cX7_macros 79 = .ok (.iload 6, 2) := by decide +kernel
theorem dX7_macros_81 : decode cX7_macros 81 = .ok (.isub, 1) := by decide +kernel
theorem dX7_macros_82 : decode cX7_macros 82 = .ok (.isub, 1) := by decide +kernel
theorem dX7_macros_83 : decode cX7_macros 83 = .ok (.ireturn, 1) := by decide +kernel
theorem dX7_macros_84 : decode cX7_macros 84 = .ok (.aload_n 0, 1) := by decide +kernel
theorem dX7_macros_85 : decode cX7_macros 85 = .ok (.aload_n 0, 1) := by decide +kernel
theorem dX7_macros_86 : decode cX7_macros 86 = .ok (.getfield 108, 3) := by decide +kernel
theorem dX7_macros_89 : decode cX7_macros 89 = .ok (.putfield 84, 3) := by decide +kernel
theorem dX7_macros_92 : decode cX7_macros 92 = .ok (.iconst 0, 1) := by decide +kernel
theorem dX7_macros_93 : decode cX7_macros 93 = .ok (.istore 7, 2) := by decide +kernel
theorem dX7_macros_95 : decode cX7_macros 95 = .ok (.iload 7, 2) := by decide +kernel
theorem dX7_macros_97 : decode cX7_macros 97 = .ok (.aload_n 0, 1) := by decide +kernel
theorem dX7_macros_98 : decode cX7_macros 98 = .ok (.getfield 84, 3) := by decide +kernel
theorem dX7_macros_101 : decode cX7_macros 101 = .ok (.if_icmp .ge 90, 3) := by decide +kernel
theorem dX7_macros_104 : decode cX7_macros 104 = .ok (.aload_n 0, 1) := by decide +kernel
theorem dX7_macros_105 : decode cX7_macros 105 = .ok (.getfield 19, 3) := by decide +kernel
theorem dX7_macros_108 : decode cX7_macros 108 = .ok (.iload 7, 2) := by decide +kernel
theorem dX7_macros_110 : decode cX7_macros 110 = .ok (.aload_n 0, 1) := by decide +kernel
theorem dX7_macros_111 : decode cX7_macros 111 = .ok (.getfield 31, 3) := by decide +kernel
theorem dX7_macros_114 : decode cX7_macros 114 = .ok (.iload 7, 2) := by decide +kernel
theorem dX7_macros_116 : decode cX7_macros 116 = .ok (.iaload, 1) := by decide +kernel
theorem dX7_macros_117 : decode cX7_macros 117 = .ok (.iastore, 1) := by decide +kernel
theorem dX7_macros_118 : decode cX7_macros 118 = .ok (.aload_n 0, 1) := by decide +kernel
theorem dX7_macros_119 : decode cX7_macros 119 = .ok (.getfield 22, 3) := by decide +kernel
theorem dX7_macros_122 : decode cX7_macros 122 = .ok (.iload 7, 2) := by decide +kernel
theorem dX7_macros_124 : decode cX7_macros 124 = .ok (.aload_n 0, 1) := by decide +kernel
theorem dX7_macros_125 : decode cX7_macros 125 = .ok (.getfield 34, 3) := by decide +kernel
theorem dX7_macros_128 : decode cX7_macros 128 = .ok (.iload 7, 2) := by decide +kernel
theorem dX7_macros_130 : decode cX7_macros 130 = .ok (.iaload, 1) := by decide +kernel
theorem dX7_macros_131 : decode cX7_macros 131 = .ok (.iastore, 1) := by decide +kernel
theorem dX7_macros_132 : decode cX7_macros 132 = .ok (.aload_n 0, 1) := by decide +kernel
theorem dX7_macros_133 : decode cX7_macros 133 = .ok (.getfield 25, 3) := by decide +kernel
theorem dX7_macros_136 : decode cX7_macros 136 = .ok (.iload 7, 2) := by decide +kernel
theorem dX7_macros_138 : decode cX7_macros 138 = .ok (.aload_n 0, 1) := by decide +kernel
theorem dX7_macros_139 : decode cX7_macros 139 = .ok (.getfield 37, 3) := by decide +kernel
theorem dX7_macros_142 : decode cX7_macros 142 = .ok (.iload 7, 2) := by decide +kernel
theorem dX7_macros_144 : decode cX7_macros 144 = .ok (.iaload, 1) := by decide +kernel
theorem dX7_macros_145 : decode cX7_macros 145 = .ok (.iastore, 1) := by decide +kernel
theorem dX7_macros_146 : decode cX7_macros 146 = .ok (.iconst 0, 1) := by decide +kernel
theorem dX7_macros_147 : decode cX7_macros 147 = .ok (.istore 8, 2) := by decide +kernel
theorem dX7_macros_149 : decode cX7_macros 149 = .ok (.iload 8, 2) := by decide +kernel
theorem dX7_macros_151 : decode cX7_macros 151 = .ok (.iconst 4, 1) := by decide +kernel
theorem dX7_macros_152 : decode cX7_macros 152 = .ok (.if_icmp .ge 33, 3) := by decide +kernel
theorem dX7_macros_155 : decode cX7_macros 155 = .ok (.aload_n 0, 1) := by decide +kernel
theorem dX7_macros_156 : decode cX7_macros 156 = .ok (.getfield 28, 3) := by decide +kernel
theorem dX7_macros_159 : decode cX7_macros 159 = .ok (.iconst 4, 1) := by decide +kernel
theorem dX7_macros_160 : decode cX7_macros 160 = .ok (.iload 7, 2) := by decide +kernel
theorem dX7_macros_162 : decode cX7_macros 162 = .ok (.imul, 1) := by decide +kernel
theorem dX7_macros_163 : decode cX7_macros 163 = .ok (.iload 8, 2) := by decide +kernel
theorem dX7_macros_165 : decode cX7_macros 165 = .ok (.iadd, 1) := by decide +kernel
theorem dX7_macros_166 : decode cX7_macros 166 = .ok (.aload_n 0, 1) := by decide +kernel
theorem dX7_macros_167 : decode cX7_macros 167 = .ok (.getfield 40, 3) := by decide +kernel
theorem dX7_macros_170 : decode cX7_macros 170 = .ok (.iconst 4, 1) := by decide +kernel
theorem dX7_macros_171 : decode cX7_macros 171 = .ok (.iload 7, 2) := by decide +kernel
theorem dX7_macros_173 : decode cX7_macros 173 = .ok (.imul, 1) := by decide +kernel
theorem dX7_macros_174 : decode cX7_macros 174 = .ok (.iload 8, 2) := by decide +kernel
theorem dX7_macros_176 : decode cX7_macros 176 = .ok (.iadd, 1) := by decide +kernel
theorem dX7_macros_177 : decode cX7_macros 177 = .ok (.iaload, 1) := by decide +kernel
theorem dX7_macros_178 : decode cX7_macros 178 = .ok (.iastore, 1) := by decide +kernel
theorem dX7_macros_179 : decode cX7_macros 179 = .ok (.iinc 8 1, 3) := by decide +kernel
theorem dX7_macros_182 : decode cX7_macros 182 = .ok (.goto (-33), 3) := by decide +kernel
theorem dX7_macros_185 : decode cX7_macros 185 = .ok (.iinc 7 1, 3) := by decide +kernel
theorem dX7_macros_188 : decode cX7_macros 188 = .ok (.goto (-93), 3) := by decide +kernel
theorem dX7_macros_191 : decode cX7_macros 191 = .ok (.aload_n 0, 1) := by decide +kernel
theorem dX7_macros_192 : decode cX7_macros 192 = .ok (.iconst 0, 1) := by decide +kernel
theorem dX7_macros_193 : decode cX7_macros 193 = .ok (.putfield 111, 3) := by decide +kernel
theorem dX7_macros_196 : decode cX7_macros 196 = .ok (.aload_n 0, 1) := by decide +kernel
theorem dX7_macros_197 : decode cX7_macros 197 = .ok (.iconst 0, 1) := by decide +kernel
theorem dX7_macros_198 : decode cX7_macros 198 = .ok (.putfield 114, 3) := by decide +kernel
theorem dX7_macros_201 : decode cX7_macros 201 = .ok (.aload_n 0, 1) := by decide +kernel
theorem dX7_macros_202 : decode cX7_macros 202 = .ok (.iconst 0, 1) := by decide +kernel
theorem dX7_macros_203 : decode cX7_macros 203 = .ok (.putfield 117, 3) := by decide +kernel
theorem dX7_macros_206 : decode cX7_macros 206 = .ok (.aload_n 0, 1) := by decide +kernel
theorem dX7_macros_207 : decode cX7_macros 207 = .ok (.iconst 0, 1) := by decide +kernel
theorem dX7_macros_208 : decode cX7_macros 208 = .ok (.putfield 120, 3) := by decide +kernel
theorem dX7_macros_211 : decode cX7_macros 211 = .ok (.aload_n 0, 1) := by decide +kernel
theorem dX7_macros_212 : decode cX7_macros 212 = .ok (.getfield 84, 3) := by decide +kernel
theorem dX7_macros_215 : decode cX7_macros 215 = .ok (.ireturn, 1) := by decide +kernel
theorem dX7_readMacrosAll_0 : decode cX7_readMacrosAll 0 = .ok (.aload_n 0, 1) := by decide +kernel
theorem dX7_readMacrosAll_1 : decode cX7_readMacrosAll 1 = .ok (.iconst 0, 1) := by decide +kernel
theorem dX7_readMacrosAll_2 : decode cX7_readMacrosAll 2 = .ok (.putfield 108, 3) := by decide +kernel
theorem dX7_readMacrosAll_5 : decode cX7_readMacrosAll 5 = .ok (.aload_n 0, 1) := by decide +kernel
theorem dX7_readMacrosAll_6 : decode cX7_readMacrosAll 6 = .ok (.getfield 102, 3) := by decide +kernel
theorem dX7_readMacrosAll_9 : decode cX7_readMacrosAll 9 = .ok (.iload_n 1, 1) := by decide +kernel
theorem dX7_readMacrosAll_10 : decode cX7_readMacrosAll 10 = .ok (.if_icmp .ge 17, 3) := by decide +kernel
theorem dX7_readMacrosAll_13 : decode cX7_readMacrosAll 13 = .ok (.aload_n 0, 1) := by decide +kernel
theorem dX7_readMacrosAll_14 : decode cX7_readMacrosAll 14 = .ok (.getfield 16, 3) := by decide +kernel
theorem dX7_readMacrosAll_17 : decode cX7_readMacrosAll 17 = .ok (.aload_n 0, 1) := by decide +kernel
theorem dX7_readMacrosAll_18 : decode cX7_readMacrosAll 18 = .ok (.getfield 102, 3) := by decide +kernel
theorem dX7_readMacrosAll_21 : decode cX7_readMacrosAll 21 = .ok (.iaload, 1) := by decide +kernel
theorem dX7_readMacrosAll_22 : decode cX7_readMacrosAll 22 = .ok (.bipush 107, 2) := by decide +kernel
theorem dX7_readMacrosAll_24 : decode cX7_readMacrosAll 24 = .ok (.if_icmp .eq 5, 3) := by decide +kernel
theorem dX7_readMacrosAll_27 : decode cX7_readMacrosAll 27 = .ok (.iconst 0, 1) := by decide +kernel
theorem dX7_readMacrosAll_28 : decode cX7_readMacrosAll 28 = .ok (.ireturn, 1) := by decide +kernel
theorem dX7_readMacrosAll_29 : decode cX7_readMacrosAll 29 = .ok (.aload_n 0, 1) := by decide +kernel
theorem dX7_readMacrosAll_30 : decode cX7_readMacrosAll 30 = .ok (.dup, 1) := by decide +kernel
theorem dX7_readMacrosAll_31 : decode cX7_readMacrosAll 31 = .ok (.getfield 102, 3) := by decide +kernel
theorem dX7_readMacrosAll_34 : decode cX7_readMacrosAll 34 = .ok (.iconst 1, 1) := by decide +kernel
theorem dX7_readMacrosAll_35 : decode cX7_readMacrosAll 35 = .ok (.iadd, 1) := by decide +kernel
theorem dX7_readMacrosAll_36 : decode cX7_readMacrosAll 36 = .ok (.putfield 102, 3) := by decide +kernel
theorem dX7_readMacrosAll_39 : decode cX7_readMacrosAll 39 = .ok (.aload_n 0, 1) := by decide +kernel
theorem dX7_readMacrosAll_40 : decode cX7_readMacrosAll 40 = .ok (.getfield 108, 3) := by decide +kernel
theorem dX7_readMacrosAll_43 : decode cX7_readMacrosAll 43 = .ok (.ifCond .eq 19, 3) := by decide +kernel
theorem dX7_readMacrosAll_46 : decode cX7_readMacrosAll 46 = .ok (.aload_n 0, 1) := by decide +kernel
theorem dX7_readMacrosAll_47 : decode cX7_readMacrosAll 47 = .ok (.getfield 108, 3) := by decide +kernel
theorem dX7_readMacrosAll_50 : decode cX7_readMacrosAll 50 = .ok (.iconst 3, 1) := by decide +kernel
theorem dX7_readMacrosAll_51 : decode cX7_readMacrosAll 51 = .ok (.if_icmp .ge 72, 3) := by decide +kernel
theorem dX7_readMacrosAll_54 : decode cX7_readMacrosAll 54 = .ok (.aload_n 0, 1) := by decide +kernel
theorem dX7_readMacrosAll_55 : decode cX7_readMacrosAll 55 = .ok (.getfield 102, 3) := by decide +kernel
theorem dX7_readMacrosAll_58 : decode cX7_readMacrosAll 58 = .ok (.iload_n 1, 1) := by decide +kernel
theorem dX7_readMacrosAll_59 : decode cX7_readMacrosAll 59 = .ok (.if_icmp .ge 64, 3) := by decide +kernel
theorem dX7_readMacrosAll_62 : decode cX7_readMacrosAll 62 = .ok (.aload_n 0, 1) := by decide +kernel
theorem dX7_readMacrosAll_63 : decode cX7_readMacrosAll 63 = .ok (.getfield 102, 3) := by decide +kernel
theorem dX7_readMacrosAll_66 : decode cX7_readMacrosAll 66 = .ok (.iload_n 1, 1) := by decide +kernel
theorem dX7_readMacrosAll_67 : decode cX7_readMacrosAll 67 = .ok (.if_icmp .ge 17, 3) := by decide +kernel
theorem dX7_readMacrosAll_70 : decode cX7_readMacrosAll 70 = .ok (.aload_n 0, 1) := by decide +kernel
theorem dX7_readMacrosAll_71 : decode cX7_readMacrosAll 71 = .ok (.getfield 16, 3) := by decide +kernel
theorem dX7_readMacrosAll_74 : decode cX7_readMacrosAll 74 = .ok (.aload_n 0, 1) := by decide +kernel
theorem dX7_readMacrosAll_75 : decode cX7_readMacrosAll 75 = .ok (.getfield 102, 3) := by decide +kernel
theorem dX7_readMacrosAll_78 : decode cX7_readMacrosAll 78 = .ok (.iaload, 1) := by decide +kernel
theorem dX7_readMacrosAll_79 : decode cX7_readMacrosAll 79 = .ok (.bipush 59, 2) := by decide +kernel
theorem dX7_readMacrosAll_81 : decode cX7_readMacrosAll 81 = .ok (.if_icmp .eq 5, 3) := by decide +kernel
theorem dX7_readMacrosAll_84 : decode cX7_readMacrosAll 84 = .ok (.iconst 0, 1) := by decide +kernel
theorem dX7_readMacrosAll_85 : decode cX7_readMacrosAll 85 = .ok (.ireturn, 1) := by decide +kernel
theorem dX7_readMacrosAll_86 : decode cX7_readMacrosAll 86 = .ok (.aload_n 0, 1) := by decide +kernel
theorem dX7_readMacrosAll_87 : decode cX7_readMacrosAll 87 = .ok (.dup, 1) := by decide +kernel
theorem dX7_readMacrosAll_88 : decode cX7_readMacrosAll 88 = .ok (.getfield 102, 3) := by decide +kernel
theorem dX7_readMacrosAll_91 : decode cX7_readMacrosAll 91 = .ok (.iconst 1, 1) := by decide +kernel
theorem dX7_readMacrosAll_92 : decode cX7_readMacrosAll 92 = .ok (.iadd, 1) := by decide +kernel
theorem dX7_readMacrosAll_93 : decode cX7_readMacrosAll 93 = .ok (.putfield 102, 3) := by decide +kernel
theorem dX7_readMacrosAll_96 : decode cX7_readMacrosAll 96 = .ok (.aload_n 0, 1) := by decide +kernel
theorem dX7_readMacrosAll_97 : decode cX7_readMacrosAll 97 = .ok (.iload_n 1, 1) := by decide +kernel
theorem dX7_readMacrosAll_98 : decode cX7_readMacrosAll 98 = .ok (.aload_n 0, 1) := by decide +kernel
theorem dX7_readMacrosAll_99 : decode cX7_readMacrosAll 99 = .ok (.getfield 108, 3) := by decide +kernel
theorem dX7_readMacrosAll_102 : decode cX7_readMacrosAll 102 = .ok (.invokevirtual 124, 3) := by decide +kernel
theorem dX7_readMacrosAll_105 : decode cX7_readMacrosAll 105 = .ok (.ifCond .ne 5, 3) := by decide +kernel
theorem dX7_readMacrosAll_108 : decode cX7_readMacrosAll 108 = .ok (.iconst 0, 1) := by decide +kernel
theorem dX7_readMacrosAll_109 : decode cX7_readMacrosAll 109 = .ok (.ireturn, 1) := by decide +kernel
theorem dX7_readMacrosAll_110 : decode cX7_readMacrosAll 110 = .ok (.aload_n 0, 1) := by decide +kernel
theorem dX7_readMacrosAll_111 : decode cX7_readMacrosAll 111 = .ok (.dup, 1) := by decide +kernel
theorem dX7_readMacrosAll_112 : decode cX7_readMacrosAll 112 = .ok (.getfield 108, 3) := by decide +kernel
theorem dX7_readMacrosAll_115 : decode cX7_readMacrosAll 115 = .ok (.iconst 1, 1) := by decide +kernel
theorem dX7_readMacrosAll_116 : decode cX7_readMacrosAll 116 = .ok (.iadd, 1) := by decide +kernel
theorem dX7_readMacrosAll_117 : decode cX7_readMacrosAll 117 = .ok (.putfield 108, 3) := by decide +kernel
theorem dX7_readMacrosAll_120 : decode cX7_readMacrosAll 120 = .ok (.goto (-81), 3) := by decide +kernel
theorem dX7_readMacrosAll_123 : decode cX7_readMacrosAll 123 = .ok (.aload_n 0, 1) := by decide +kernel
theorem dX7_readMacrosAll_124 : decode cX7_readMacrosAll 124 = .ok (.getfield 102, 3) := by decide +kernel
theorem dX7_readMacrosAll_127 : decode cX7_readMacrosAll 127 = .ok (.iload_n 1, 1) := by decide +kernel
theorem dX7_readMacrosAll_128 : decode cX7_readMacrosAll 128 = .ok (.if_icmp .ne 7, 3) := by decide +kernel
theorem dX7_readMacrosAll_131 : decode cX7_readMacrosAll 131 = .ok (.iconst 1, 1) := by decide +kernel
theorem dX7_readMacrosAll_132 : decode cX7_readMacrosAll 132 = .ok (.goto 4, 3) := by decide +kernel
theorem dX7_readMacrosAll_135 : decode cX7_readMacrosAll 135 = .ok (.iconst 0, 1) := by decide +kernel
theorem dX7_readMacrosAll_136 : decode cX7_readMacrosAll 136 = .ok (.ireturn, 1) := by decide +kernel
theorem dX7_readMacro_0 : decode cX7_readMacro 0 = .ok (.aload_n 0, 1) := by decide +kernel
theorem dX7_readMacro_1 : decode cX7_readMacro 1 = .ok (.getfield 102, 3) := by decide +kernel
theorem dX7_readMacro_4 : decode cX7_readMacro 4 = .ok (.iload_n 1, 1) := by decide +kernel
theorem dX7_readMacro_5 : decode cX7_readMacro 5 = .ok (.if_icmp .ge 15, 3) := by decide +kernel
theorem dX7_readMacro_8 : decode cX7_readMacro 8 = .ok (.aload_n 0, 1) := by decide +kernel
theorem dX7_readMacro_9 : decode cX7_readMacro 9 = .ok (.getfield 16, 3) := by decide +kernel
theorem dX7_readMacro_12 : decode cX7_readMacro 12 = .ok (.aload_n 0, 1) := by decide +kernel
theorem dX7_readMacro_13 : decode cX7_readMacro 13 = .ok (.getfield 102, 3) := by decide +kernel
theorem dX7_readMacro_16 : decode cX7_readMacro 16 = .ok (.iaload, 1) := by decide +kernel
theorem dX7_readMacro_17 : decode cX7_readMacro 17 = .ok (.goto 4, 3) := by decide +kernel
theorem dX7_readMacro_20 : decode cX7_readMacro 20 = .ok (.iconst 0, 1) := by decide +kernel
theorem dX7_readMacro_21 : decode cX7_readMacro 21 = .ok (.istore_n 3, 1) := by decide +kernel
theorem dX7_readMacro_22 : decode cX7_readMacro 22 = .ok (.aload_n 0, 1) := by decide +kernel
theorem dX7_readMacro_23 : decode cX7_readMacro 23 = .ok (.getfield 31, 3) := by decide +kernel
theorem dX7_readMacro_26 : decode cX7_readMacro 26 = .ok (.iload_n 2, 1) := by decide +kernel
theorem dX7_readMacro_27 : decode cX7_readMacro 27 = .ok (.iload_n 3, 1) := by decide +kernel
theorem dX7_readMacro_28 : decode cX7_readMacro 28 = .ok (.bipush 112, 2) := by decide +kernel
theorem dX7_readMacro_30 : decode cX7_readMacro 30 = .ok (.if_icmp .ne 7, 3) := by decide +kernel
theorem dX7_readMacro_33 : decode cX7_readMacro 33 = .ok (.iconst 0, 1) := by decide +kernel
theorem dX7_readMacro_34 : decode cX7_readMacro 34 = .ok (.goto 25, 3) := by decide +kernel
theorem dX7_readMacro_37 : decode cX7_readMacro 37 = .ok (.iload_n 3, 1) := by decide +kernel
theorem dX7_readMacro_38 : decode cX7_readMacro 38 = .ok (.bipush 98, 2) := by decide +kernel
theorem dX7_readMacro_40 : decode cX7_readMacro 40 = .ok (.if_icmp .ne 7, 3) := by decide +kernel
theorem dX7_readMacro_43 : decode cX7_readMacro 43 = .ok (.iconst 1, 1) := by decide +kernel
theorem dX7_readMacro_44 : decode cX7_readMacro 44 = .ok (.goto 15, 3) := by decide +kernel
theorem dX7_readMacro_47 : decode cX7_readMacro 47 = .ok (.iload_n 3, 1) := by decide +kernel
theorem dX7_readMacro_48 : decode cX7_readMacro 48 = .ok (.bipush 101, 2) := by decide +kernel
theorem dX7_readMacro_50 : decode cX7_readMacro 50 = .ok (.if_icmp .ne 7, 3) := by decide +kernel
theorem dX7_readMacro_53 : decode cX7_readMacro 53 = .ok (.iconst 2, 1) := by decide +kernel
theorem dX7_readMacro_54 : decode cX7_readMacro 54 = .ok (.goto 5, 3) := by decide +kernel
theorem dX7_readMacro_57 : decode cX7_readMacro 57 = .ok (.bipush (-9), 2) := by decide +kernel
theorem dX7_readMacro_59 : decode cX7_readMacro 59 = .ok (.iastore, 1) := by decide +kernel
theorem dX7_readMacro_60 : decode cX7_readMacro 60 = .ok (.aload_n 0, 1) := by decide +kernel
theorem dX7_readMacro_61 : decode cX7_readMacro 61 = .ok (.getfield 31, 3) := by decide +kernel
theorem dX7_readMacro_64 : decode cX7_readMacro 64 = .ok (.iload_n 2, 1) := by decide +kernel
theorem dX7_readMacro_65 : decode cX7_readMacro 65 = .ok (.iaload, 1) := by decide +kernel
theorem dX7_readMacro_66 : decode cX7_readMacro 66 = .ok (.bipush (-9), 2) := by decide +kernel
theorem dX7_readMacro_68 : decode cX7_readMacro 68 = .ok (.if_icmp .ne 5, 3) := by decide +kernel
theorem dX7_readMacro_71 : decode cX7_readMacro 71 = .ok (.iconst 0, 1) := by decide +kernel
theorem dX7_readMacro_72 : decode cX7_readMacro 72 = .ok (.ireturn, 1) := by decide +kernel
theorem dX7_readMacro_73 : decode cX7_readMacro 73 = .ok (.aload_n 0, 1) := by decide +kernel
theorem dX7_readMacro_74 : decode cX7_readMacro 74 = .ok (.dup, 1) := by decide +kernel
theorem dX7_readMacro_75 : decode cX7_readMacro 75 = .ok (.getfield 102, 3) := by decide +kernel
theorem dX7_readMacro_78 : decode cX7_readMacro 78 = .ok (.iconst 1, 1) := by decide +kernel
theorem dX7_readMacro_79 : decode cX7_readMacro 79 = .ok (.iadd, 1) := by decide +kernel
theorem dX7_readMacro_80 : decode cX7_readMacro 80 = .ok (.putfield 102, 3) := by decide +kernel
theorem dX7_readMacro_83 : decode cX7_readMacro 83 = .ok (.aload_n 0, 1) := by decide +kernel
theorem dX7_readMacro_84 : decode cX7_readMacro 84 = .ok (.getfield 102, 3) := by decide +kernel
theorem dX7_readMacro_87 : decode cX7_readMacro 87 = .ok (.iload_n 1, 1) := by decide +kernel
theorem dX7_readMacro_88 : decode cX7_readMacro 88 = .ok (.if_icmp .ge 22, 3) := by decide +kernel
theorem dX7_readMacro_91 : decode cX7_readMacro 91 = .ok (.aload_n 0, 1) := by decide +kernel
theorem dX7_readMacro_92 : decode cX7_readMacro 92 = .ok (.getfield 16, 3) := by decide +kernel
theorem dX7_readMacro_95 : decode cX7_readMacro 95 = .ok (.aload_n 0, 1) := by decide +kernel
theorem dX7_readMacro_96 : decode cX7_readMacro 96 = .ok (.getfield 102, 3) := by decide +kernel
theorem dX7_readMacro_99 : decode cX7_readMacro 99 = .ok (.iaload, 1) := by decide +kernel
theorem dX7_readMacro_100 : decode cX7_readMacro 100 = .ok (.bipush 49, 2) := by decide +kernel
theorem dX7_readMacro_102 : decode cX7_readMacro 102 = .ok (.bipush 51, 2) := by decide +kernel
theorem dX7_readMacro_104 : decode cX7_readMacro 104 = .ok (.invokestatic 80, 3) := by decide +kernel
theorem dX7_readMacro_107 : decode cX7_readMacro 107 = .ok (.ifCond .ne 5, 3) := by decide +kernel
theorem dX7_readMacro_110 : decode cX7_readMacro 110 = .ok (.iconst 0, 1) := by decide +kernel
theorem dX7_readMacro_111 : decode cX7_readMacro 111 = .ok (.ireturn, 1) := by decide +kernel
theorem dX7_readMacro_112 : decode cX7_readMacro 112 = .ok (.aload_n 0, 1) := by decide +kernel
theorem dX7_readMacro_113 : decode cX7_readMacro 113 = .ok (.getfield 34, 3) := by decide +kernel
theorem dX7_readMacro_116 : decode cX7_readMacro 116 = .ok (.iload_n 2, 1) := by decide +kernel
theorem dX7_readMacro_117 : decode cX7_readMacro 117 = .ok (.aload_n 0, 1) := by decide +kernel
theorem dX7_readMacro_118 : decode cX7_readMacro 118 = .ok (.getfield 16, 3) := by decide +kernel
theorem dX7_readMacro_121 : decode cX7_readMacro 121 = .ok (.aload_n 0, 1) := by decide +kernel
theorem dX7_readMacro_122 : decode cX7_readMacro 122 = .ok (.getfield 102, 3) := by decide +kernel
theorem dX7_readMacro_125 : decode cX7_readMacro 125 = .ok (.iaload, 1) := by decide +kernel
theorem dX7_readMacro_126 : decode cX7_readMacro 126 = .ok (.bipush 48, 2) := by decide +kernel
theorem dX7_readMacro_128 : decode cX7_readMacro 128 = .ok (.isub, 1) := by decide +kernel
theorem dX7_readMacro_129 : decode cX7_readMacro 129 = .ok (.iastore, 1) := by decide +kernel
theorem dX7_readMacro_130 : decode cX7_readMacro 130 = .ok (.aload_n 0, 1) := by decide +kernel
theorem dX7_readMacro_131 : decode cX7_readMacro 131 = .ok (.dup, 1) := by decide +kernel
theorem dX7_readMacro_132 : decode cX7_readMacro 132 = .ok (.getfield 102, 3) := by decide +kernel
theorem dX7_readMacro_135 : decode cX7_readMacro 135 = .ok (.iconst 1, 1) := by decide +kernel
theorem dX7_readMacro_136 : decode cX7_readMacro 136 = .ok (.iadd, 1) := by decide +kernel
theorem dX7_readMacro_137 : decode cX7_readMacro 137 = .ok (.putfield 102, 3) := by decide +kernel
theorem dX7_readMacro_140 : decode cX7_readMacro 140 = .ok (.aload_n 0, 1) := by decide +kernel
theorem dX7_readMacro_141 : decode cX7_readMacro 141 = .ok (.getfield 37, 3) := by decide +kernel
theorem dX7_readMacro_144 : decode cX7_readMacro 144 = .ok (.iload_n 2, 1) := by decide +kernel
theorem dX7_readMacro_145 : decode cX7_readMacro 145 = .ok (.iconst 0, 1) := by decide +kernel
theorem dX7_readMacro_146 : decode cX7_readMacro 146 = .ok (.iastore, 1) := by decide +kernel
theorem dX7_readMacro_147 : decode cX7_readMacro 147 = .ok (.aload_n 0, 1) := by decide +kernel
theorem dX7_readMacro_148 : decode cX7_readMacro 148 = .ok (.getfield 37, 3) := by decide +kernel
theorem dX7_readMacro_151 : decode cX7_readMacro 151 = .ok (.iload_n 2, 1) := by decide +kernel
theorem dX7_readMacro_152 : decode cX7_readMacro 152 = .ok (.iaload, 1) := by decide +kernel
theorem dX7_readMacro_153 : decode cX7_readMacro 153 = .ok (.iconst 4, 1) := by decide +kernel
theorem dX7_readMacro_154 : decode cX7_readMacro 154 = .ok (.if_icmp .ge 80, 3) := by decide +kernel
theorem dX7_readMacro_157 : decode cX7_readMacro 157 = .ok (.aload_n 0, 1) := by decide +kernel
theorem dX7_readMacro_158 : decode cX7_readMacro 158 = .ok (.getfield 102, 3) := by decide +kernel
theorem dX7_readMacro_161 : decode cX7_readMacro 161 = .ok (.iload_n 1, 1) := by decide +kernel
theorem dX7_readMacro_162 : decode cX7_readMacro 162 = .ok (.if_icmp .ge 72, 3) := by decide +kernel
theorem dX7_readMacro_165 : decode cX7_readMacro 165 = .ok (.aload_n 0, 1) := by decide +kernel
theorem dX7_readMacro_166 : decode cX7_readMacro 166 = .ok (.getfield 16, 3) := by decide +kernel
theorem dX7_readMacro_169 : decode cX7_readMacro 169 = .ok (.aload_n 0, 1) := by decide +kernel
theorem dX7_readMacro_170 : decode cX7_readMacro 170 = .ok (.getfield 102, 3) := by decide +kernel
theorem dX7_readMacro_173 : decode cX7_readMacro 173 = .ok (.iaload, 1) := by decide +kernel
theorem dX7_readMacro_174 : decode cX7_readMacro 174 = .ok (.iload_n 2, 1) := by decide +kernel
theorem dX7_readMacro_175 : decode cX7_readMacro 175 = .ok (.invokestatic 127, 3) := by decide +kernel
theorem dX7_readMacro_178 : decode cX7_readMacro 178 = .ok (.bipush (-9), 2) := by decide +kernel
theorem dX7_readMacro_180 : decode cX7_readMacro 180 = .ok (.if_icmp .eq 54, 3) := by decide +kernel
theorem dX7_readMacro_183 : decode cX7_readMacro 183 = .ok (.aload_n 0, 1) := by decide +kernel
theorem dX7_readMacro_184 : decode cX7_readMacro 184 = .ok (.getfield 40, 3) := by decide +kernel
theorem dX7_readMacro_187 : decode cX7_readMacro 187 = .ok (.iconst 4, 1) := by decide +kernel
theorem dX7_readMacro_188 : decode cX7_readMacro 188 = .ok (.iload_n 2, 1) := by decide +kernel
theorem dX7_readMacro_189 : decode cX7_readMacro 189 = .ok (.imul, 1) := by decide +kernel
theorem dX7_readMacro_190 : decode cX7_readMacro 190 = .ok (.aload_n 0, 1) := by decide +kernel
theorem dX7_readMacro_191 : decode cX7_readMacro 191 = .ok (.getfield 37, 3) := by decide +kernel
theorem dX7_readMacro_194 : decode cX7_readMacro 194 = .ok (.iload_n 2, 1) := by decide +kernel
theorem dX7_readMacro_195 : decode cX7_readMacro 195 = .ok (.iaload, 1) := by decide +kernel
theorem dX7_readMacro_196 : decode cX7_readMacro 196 = .ok (.iadd, 1) := by decide +kernel
theorem dX7_readMacro_197 : decode cX7_readMacro 197 = .ok (.aload_n 0, 1) := by decide +kernel
theorem dX7_readMacro_198 : decode cX7_readMacro 198 = .ok (.getfield 16, 3) := by decide +kernel
theorem dX7_readMacro_201 : decode cX7_readMacro 201 = .ok (.aload_n 0, 1) := by decide +kernel
theorem dX7_readMacro_202 : decode cX7_readMacro 202 = .ok (.getfield 102, 3) := by decide +kernel
theorem dX7_readMacro_205 : decode cX7_readMacro 205 = .ok (.iaload, 1) := by decide +kernel
theorem dX7_readMacro_206 : decode cX7_readMacro 206 = .ok (.iload_n 2, 1) := by decide +kernel
theorem dX7_readMacro_207 : decode cX7_readMacro 207 = .ok (.invokestatic 127, 3) := by decide +kernel
theorem dX7_readMacro_210 : decode cX7_readMacro 210 = .ok (.iastore, 1) := by decide +kernel
theorem dX7_readMacro_211 : decode cX7_readMacro 211 = .ok (.aload_n 0, 1) := by decide +kernel
theorem dX7_readMacro_212 : decode cX7_readMacro 212 = .ok (.getfield 37, 3) := by decide +kernel
theorem dX7_readMacro_215 : decode cX7_readMacro 215 = .ok (.iload_n 2, 1) := by decide +kernel
theorem dX7_readMacro_216 : decode cX7_readMacro 216 = .ok (.dup2, 1) := by decide +kernel
theorem dX7_readMacro_217 : decode cX7_readMacro 217 = .ok (.iaload, 1) := by decide +kernel
theorem dX7_readMacro_218 : decode cX7_readMacro 218 = .ok (.iconst 1, 1) := by decide +kernel
theorem dX7_readMacro_219 : decode cX7_readMacro 219 = .ok (.iadd, 1) := by decide +kernel
theorem dX7_readMacro_220 : decode cX7_readMacro 220 = .ok (.iastore, 1) := by decide +kernel
theorem dX7_readMacro_221 : decode cX7_readMacro 221 = .ok (.aload_n 0, 1) := by decide +kernel
theorem dX7_readMacro_222 : decode cX7_readMacro 222 = .ok (.dup, 1) := by decide +kernel
theorem dX7_readMacro_223 : decode cX7_readMacro 223 = .ok (.getfield 102, 3) := by decide +kernel
theorem dX7_readMacro_226 : decode cX7_readMacro 226 = .ok (.iconst 1, 1) := by decide +kernel
theorem dX7_readMacro_227 : decode cX7_readMacro 227 = .ok (.iadd, 1) := by decide +kernel
theorem dX7_readMacro_228 : decode cX7_readMacro 228 = .ok (.putfield 102, 3) := by decide +kernel
theorem dX7_readMacro_231 : decode cX7_readMacro 231 = .ok (.goto (-84), 3) := by decide +kernel
theorem dX7_readMacro_234 : decode cX7_readMacro 234 = .ok (.aload_n 0, 1) := by decide +kernel
theorem dX7_readMacro_235 : decode cX7_readMacro 235 = .ok (.getfield 37, 3) := by decide +kernel
theorem dX7_readMacro_238 : decode cX7_readMacro 238 = .ok (.iload_n 2, 1) := by decide +kernel
theorem dX7_readMacro_239 : decode cX7_readMacro 239 = .ok (.iaload, 1) := by decide +kernel
theorem dX7_readMacro_240 : decode cX7_readMacro 240 = .ok (.ifCond .le 7, 3) := by decide +kernel
theorem dX7_readMacro_243 : decode cX7_readMacro 243 = .ok (.iconst 1, 1) := by decide +kernel
theorem dX7_readMacro_244 : decode cX7_readMacro 244 = .ok (.goto 4, 3) := by decide +kernel
theorem dX7_readMacro_247 : decode cX7_readMacro 247 = .ok (.iconst 0, 1) := by decide +kernel
theorem dX7_readMacro_248 : decode cX7_readMacro 248 = .ok (.ireturn, 1) := by decide +kernel
theorem dX7_oftenOf_0 : decode cX7_oftenOf 0 = .ok (.aload_n 0, 1) := by decide +kernel
theorem dX7_oftenOf_1 : decode cX7_oftenOf 1 = .ok (.getfield 19, 3) := by decide +kernel
theorem dX7_oftenOf_4 : decode cX7_oftenOf 4 = .ok (.iload_n 1, 1) := by decide +kernel
theorem dX7_oftenOf_5 : decode cX7_oftenOf 5 = .ok (.iaload, 1) := by decide +kernel
theorem dX7_oftenOf_6 : decode cX7_oftenOf 6 = .ok (.ifCond .ne 12, 3) := by decide +kernel
theorem dX7_oftenOf_9 : decode cX7_oftenOf 9 = .ok (.aload_n 0, 1) := by decide +kernel
theorem dX7_oftenOf_10 : decode cX7_oftenOf 10 = .ok (.getfield 22, 3) := by decide +kernel
theorem dX7_oftenOf_13 : decode cX7_oftenOf 13 = .ok (.iload_n 1, 1) := by decide +kernel
theorem dX7_oftenOf_14 : decode cX7_oftenOf 14 = .ok (.iaload, 1) := by decide +kernel
theorem dX7_oftenOf_15 : decode cX7_oftenOf 15 = .ok (.goto 32, 3) := by decide +kernel
theorem dX7_oftenOf_18 : decode cX7_oftenOf 18 = .ok (.aload_n 0, 1) := by decide +kernel
theorem dX7_oftenOf_19 : decode cX7_oftenOf 19 = .ok (.getfield 19, 3) := by decide +kernel
theorem dX7_oftenOf_22 : decode cX7_oftenOf 22 = .ok (.iload_n 1, 1) := by decide +kernel
theorem dX7_oftenOf_23 : decode cX7_oftenOf 23 = .ok (.iaload, 1) := by decide +kernel
theorem dX7_oftenOf_24 : decode cX7_oftenOf 24 = .ok (.iconst 1, 1) := by decide +kernel
theorem dX7_oftenOf_25 : decode cX7_oftenOf 25 = .ok (.if_icmp .ne 14, 3) := by decide +kernel
theorem dX7_oftenOf_28 : decode cX7_oftenOf 28 = .ok (.aload_n 0, 1) := by decide +kernel
theorem dX7_oftenOf_29 : decode cX7_oftenOf 29 = .ok (.getfield 22, 3) := by decide +kernel
theorem dX7_oftenOf_32 : decode cX7_oftenOf 32 = .ok (.iload_n 1, 1) := by decide +kernel
theorem dX7_oftenOf_33 : decode cX7_oftenOf 33 = .ok (.iaload, 1) := by decide +kernel
theorem dX7_oftenOf_34 : decode cX7_oftenOf 34 = .ok (.iconst 1, 1) := by decide +kernel
theorem dX7_oftenOf_35 : decode cX7_oftenOf 35 = .ok (.iadd, 1) := by decide +kernel
theorem dX7_oftenOf_36 : decode cX7_oftenOf 36 = .ok (.goto 11, 3) := by decide +kernel
theorem dX7_oftenOf_39 : decode cX7_oftenOf 39 = .ok (.iconst 2, 1) := by decide +kernel
theorem dX7_oftenOf_40 : decode cX7_oftenOf 40 = .ok (.aload_n 0, 1) := by decide +kernel
theorem dX7_oftenOf_41 : decode cX7_oftenOf 41 = .ok (.getfield 22, 3) := by decide +kernel
theorem dX7_oftenOf_44 : decode cX7_oftenOf 44 = .ok (.iload_n 1, 1) := by decide +kernel
theorem dX7_oftenOf_45 : decode cX7_oftenOf 45 = .ok (.iaload, 1) := by decide +kernel
theorem dX7_oftenOf_46 : decode cX7_oftenOf 46 = .ok (.imul, 1) := by decide +kernel
theorem dX7_oftenOf_47 : decode cX7_oftenOf 47 = .ok (.ireturn, 1) := by decide +kernel
theorem dX7_findPresses_0 : decode cX7_findPresses 0 = .ok (.iconst 0, 1) := by decide +kernel
theorem dX7_findPresses_1 : decode cX7_findPresses 1 = .ok (.istore_n 1, 1) := by decide +kernel
theorem dX7_findPresses_2 : decode cX7_findPresses 2 = .ok (.iload_n 1, 1) := by decide +kernel
theorem dX7_findPresses_3 : decode cX7_findPresses 3 = .ok (.aload_n 0, 1) := by decide +kernel
theorem dX7_findPresses_4 : decode cX7_findPresses 4 = .ok (.getfield 84, 3) := by decide +kernel
theorem dX7_findPresses_7 : decode cX7_findPresses 7 = .ok (.if_icmp .ge 78, 3) := by decide +kernel
theorem dX7_findPresses_10 : decode cX7_findPresses 10 = .ok (.iconst 0, 1) := by decide +kernel
theorem dX7_findPresses_11 : decode cX7_findPresses 11 = .ok (.istore_n 2, 1) := by decide +kernel
theorem dX7_findPresses_12 : decode cX7_findPresses 12 = .ok (.iconst 0, 1) := by decide +kernel
theorem dX7_findPresses_13 : decode cX7_findPresses 13 = .ok (.istore_n 3, 1) := by decide +kernel
theorem dX7_findPresses_14 : decode cX7_findPresses 14 = .ok (.iload_n 3, 1) := by decide +kernel
theorem dX7_findPresses_15 : decode cX7_findPresses 15 = .ok (.aload_n 0, 1) := by decide +kernel
theorem dX7_findPresses_16 : decode cX7_findPresses 16 = .ok (.getfield 25, 3) := by decide +kernel
theorem dX7_findPresses_19 : decode cX7_findPresses 19 = .ok (.iload_n 1, 1) := by decide +kernel
theorem dX7_findPresses_20 : decode cX7_findPresses 20 = .ok (.iaload, 1) := by decide +kernel
theorem dX7_findPresses_21 : decode cX7_findPresses 21 = .ok (.if_icmp .ge 45, 3) := by decide +kernel
theorem dX7_findPresses_24 : decode cX7_findPresses 24 = .ok (.aload_n 0, 1) := by decide +kernel
theorem dX7_findPresses_25 : decode cX7_findPresses 25 = .ok (.getfield 28, 3) := by decide +kernel
theorem dX7_findPresses_28 : decode cX7_findPresses 28 = .ok (.iconst 4, 1) := by decide +kernel
theorem dX7_findPresses_29 : decode cX7_findPresses 29 = .ok (.iload_n 1, 1) := by decide +kernel
theorem dX7_findPresses_30 : decode cX7_findPresses 30 = .ok (.imul, 1) := by decide +kernel
theorem dX7_findPresses_31 : decode cX7_findPresses 31 = .ok (.iload_n 3, 1) := by decide +kernel
theorem dX7_findPresses_32 : decode cX7_findPresses 32 = .ok (.iadd, 1) := by decide +kernel
theorem dX7_findPresses_33 : decode cX7_findPresses 33 = .ok (.iaload, 1) := by decide +kernel
theorem dX7_findPresses_34 : decode cX7_findPresses 34 = .ok (.istore 4, 2) := by decide +kernel
theorem dX7_findPresses_36 : decode cX7_findPresses 36 = .ok (.iload_n 2, 1) := by decide +kernel
theorem dX7_findPresses_37 : decode cX7_findPresses 37 = .ok (.iload 4, 2) := by decide +kernel
theorem dX7_findPresses_39 : decode cX7_findPresses 39 = .ok (.bipush 8, 2) := by decide +kernel
theorem dX7_findPresses_41 : decode cX7_findPresses 41 = .ok (.if_icmp .ge 7, 3) := by decide +kernel
theorem dX7_findPresses_44 : decode cX7_findPresses 44 = .ok (.iconst 1, 1) := by decide +kernel
theorem dX7_findPresses_45 : decode cX7_findPresses 45 = .ok (.goto 13, 3) := by decide +kernel
theorem dX7_findPresses_48 : decode cX7_findPresses 48 = .ok (.aload_n 0, 1) := by decide +kernel
theorem dX7_findPresses_49 : decode cX7_findPresses 49 = .ok (.getfield 43, 3) := by decide +kernel
theorem dX7_findPresses_52 : decode cX7_findPresses 52 = .ok (.iload 4, 2) := by decide +kernel
theorem dX7_findPresses_54 : decode cX7_findPresses 54 = .ok (.bipush 8, 2) := by decide +kernel
theorem dX7_findPresses_56 : decode cX7_findPresses 56 = .ok (.isub, 1) := by decide +kernel
theorem dX7_findPresses_57 : decode cX7_findPresses 57 = .ok (.iaload, 1) := by decide +kernel
theorem dX7_findPresses_58 : decode cX7_findPresses 58 = .ok (.iadd, 1) := by decide +kernel
theorem dX7_findPresses_59 : decode cX7_findPresses 59 = .ok (.istore_n 2, 1) := by decide +kernel
theorem dX7_findPresses_60 : decode cX7_findPresses 60 = .ok (.iinc 3 1, 3) := by decide +kernel
theorem dX7_findPresses_63 : decode cX7_findPresses 63 = .ok (.goto (-49), 3) := by decide +kernel
theorem dX7_findPresses_66 : decode cX7_findPresses 66 = .ok (.aload_n 0, 1) := by decide +kernel
theorem dX7_findPresses_67 : decode cX7_findPresses 67 = .ok (.getfield 43, 3) := by decide +kernel
theorem dX7_findPresses_70 : decode cX7_findPresses 70 = .ok (.iload_n 1, 1) := by decide +kernel
theorem dX7_findPresses_71 : decode cX7_findPresses 71 = .ok (.aload_n 0, 1) := by decide +kernel
theorem dX7_findPresses_72 : decode cX7_findPresses 72 = .ok (.iload_n 1, 1) := by decide +kernel
theorem dX7_findPresses_73 : decode cX7_findPresses 73 = .ok (.invokevirtual 131, 3) := by decide +kernel
theorem dX7_findPresses_76 : decode cX7_findPresses 76 = .ok (.iload_n 2, 1) := by decide +kernel
theorem dX7_findPresses_77 : decode cX7_findPresses 77 = .ok (.imul, 1) := by decide +kernel
theorem dX7_findPresses_78 : decode cX7_findPresses 78 = .ok (.iastore, 1) := by decide +kernel
theorem dX7_findPresses_79 : decode cX7_findPresses 79 = .ok (.iinc 1 1, 3) := by decide +kernel
theorem dX7_findPresses_82 : decode cX7_findPresses 82 = .ok (.goto (-80), 3) := by decide +kernel
theorem dX7_findPresses_85 : decode cX7_findPresses 85 = .ok (.return_, 1) := by decide +kernel
theorem dX7_ofMacro_0 : decode cX7_ofMacro 0 = .ok (.aload_n 0, 1) := by decide +kernel
theorem dX7_ofMacro_1 : decode cX7_ofMacro 1 = .ok (.iload_n 1, 1) := by decide +kernel
theorem dX7_ofMacro_2 : decode cX7_ofMacro 2 = .ok (.invokevirtual 134, 3) := by decide +kernel
theorem dX7_ofMacro_5 : decode cX7_ofMacro 5 = .ok (.ifCond .ne 5, 3) := by decide +kernel
theorem dX7_ofMacro_8 : decode cX7_ofMacro 8 = .ok (.iconst (-1), 1) := by decide +kernel
theorem dX7_ofMacro_9 : decode cX7_ofMacro 9 = .ok (.ireturn, 1) := by decide +kernel
theorem dX7_ofMacro_10 : decode cX7_ofMacro 10 = .ok (.iload_n 2, 1) := by decide +kernel
theorem dX7_ofMacro_11 : decode cX7_ofMacro 11 = .ok (.tableswitch 71 0 4 #[33, 40, 47, 53, 60], 33) := by decide +kernel
theorem dX7_ofMacro_44 : decode cX7_ofMacro 44 = .ok (.aload_n 0, 1) := by decide +kernel
theorem dX7_ofMacro_45 : decode cX7_ofMacro 45 = .ok (.getfield 19, 3) := by decide +kernel
theorem dX7_ofMacro_48 : decode cX7_ofMacro 48 = .ok (.iload_n 1, 1) := by decide +kernel
theorem dX7_ofMacro_49 : decode cX7_ofMacro 49 = .ok (.iaload, 1) := by decide +kernel
theorem dX7_ofMacro_50 : decode cX7_ofMacro 50 = .ok (.ireturn, 1) := by decide +kernel
theorem dX7_ofMacro_51 : decode cX7_ofMacro 51 = .ok (.aload_n 0, 1) := by decide +kernel
theorem dX7_ofMacro_52 : decode cX7_ofMacro 52 = .ok (.getfield 22, 3) := by decide +kernel
theorem dX7_ofMacro_55 : decode cX7_ofMacro 55 = .ok (.iload_n 1, 1) := by decide +kernel
theorem dX7_ofMacro_56 : decode cX7_ofMacro 56 = .ok (.iaload, 1) := by decide +kernel
theorem dX7_ofMacro_57 : decode cX7_ofMacro 57 = .ok (.ireturn, 1) := by decide +kernel
theorem dX7_ofMacro_58 : decode cX7_ofMacro 58 = .ok (.aload_n 0, 1) := by decide +kernel
theorem dX7_ofMacro_59 : decode cX7_ofMacro 59 = .ok (.iload_n 1, 1) := by decide +kernel
theorem dX7_ofMacro_60 : decode cX7_ofMacro 60 = .ok (.invokevirtual 131, 3) := by decide +kernel
theorem dX7_ofMacro_63 : decode cX7_ofMacro 63 = .ok (.ireturn, 1) := by decide +kernel
theorem dX7_ofMacro_64 : decode cX7_ofMacro 64 = .ok (.aload_n 0, 1) := by decide +kernel
theorem dX7_ofMacro_65 : decode cX7_ofMacro 65 = .ok (.getfield 25, 3) := by decide +kernel
theorem dX7_ofMacro_68 : decode cX7_ofMacro 68 = .ok (.iload_n 1, 1) := by decide +kernel
theorem dX7_ofMacro_69 : decode cX7_ofMacro 69 = .ok (.iaload, 1) := by decide +kernel
theorem dX7_ofMacro_70 : decode cX7_ofMacro 70 = .ok (.ireturn, 1) := by decide +kernel
theorem dX7_ofMacro_71 : decode cX7_ofMacro 71 = .ok (.aload_n 0, 1) := by decide +kernel
theorem dX7_ofMacro_72 : decode cX7_ofMacro 72 = .ok (.invokevirtual 137, 3) := by decide +kernel
theorem dX7_ofMacro_75 : decode cX7_ofMacro 75 = .ok (.aload_n 0, 1) := by decide +kernel
theorem dX7_ofMacro_76 : decode cX7_ofMacro 76 = .ok (.getfield 43, 3) := by decide +kernel
theorem dX7_ofMacro_79 : decode cX7_ofMacro 79 = .ok (.iload_n 1, 1) := by decide +kernel
theorem dX7_ofMacro_80 : decode cX7_ofMacro 80 = .ok (.iaload, 1) := by decide +kernel
theorem dX7_ofMacro_81 : decode cX7_ofMacro 81 = .ok (.ireturn, 1) := by decide +kernel
theorem dX7_ofMacro_82 : decode cX7_ofMacro 82 = .ok (.bipush (-2), 2) := by decide +kernel
theorem dX7_ofMacro_84 : decode cX7_ofMacro 84 = .ok (.ireturn, 1) := by decide +kernel
theorem dX7_key_0 : decode cX7_key 0 = .ok (.aload_n 0, 1) := by decide +kernel
theorem dX7_key_1 : decode cX7_key 1 = .ok (.iload_n 1, 1) := by decide +kernel
theorem dX7_key_2 : decode cX7_key 2 = .ok (.invokevirtual 134, 3) := by decide +kernel
theorem dX7_key_5 : decode cX7_key 5 = .ok (.ifCond .eq 30, 3) := by decide +kernel
theorem dX7_key_8 : decode cX7_key 8 = .ok (.iload_n 2, 1) := by decide +kernel
theorem dX7_key_9 : decode cX7_key 9 = .ok (.ifCond .lt 26, 3) := by decide +kernel
theorem dX7_key_12 : decode cX7_key 12 = .ok (.iload_n 2, 1) := by decide +kernel
theorem dX7_key_13 : decode cX7_key 13 = .ok (.aload_n 0, 1) := by decide +kernel
theorem dX7_key_14 : decode cX7_key 14 = .ok (.getfield 25, 3) := by decide +kernel
theorem dX7_key_17 : decode cX7_key 17 = .ok (.iload_n 1, 1) := by decide +kernel
theorem dX7_key_18 : decode cX7_key 18 = .ok (.iaload, 1) := by decide +kernel
theorem dX7_key_19 : decode cX7_key 19 = .ok (.if_icmp .ge 16, 3) := by decide +kernel
theorem dX7_key_22 : decode cX7_key 22 = .ok (.aload_n 0, 1) := by decide +kernel
theorem dX7_key_23 : decode cX7_key 23 = .ok (.getfield 28, 3) := by decide +kernel
theorem dX7_key_26 : decode cX7_key 26 = .ok (.iconst 4, 1) := by decide +kernel
theorem dX7_key_27 : decode cX7_key 27 = .ok (.iload_n 1, 1) := by decide +kernel
theorem dX7_key_28 : decode cX7_key 28 = .ok (.imul, 1) := by decide +kernel
theorem dX7_key_29 : decode cX7_key 29 = .ok (.iload_n 2, 1) := by decide +kernel
theorem dX7_key_30 : decode cX7_key 30 = .ok (.iadd, 1) := by decide +kernel
theorem dX7_key_31 : decode cX7_key 31 = .ok (.iaload, 1) := by decide +kernel
theorem dX7_key_32 : decode cX7_key 32 = .ok (.goto 4, 3) := by decide +kernel
theorem dX7_key_35 : decode cX7_key 35 = .ok (.iconst (-1), 1) := by decide +kernel
theorem dX7_key_36 : decode cX7_key 36 = .ok (.ireturn, 1) := by decide +kernel
theorem dX7_times_0 : decode cX7_times 0 = .ok (.aload_n 0, 1) := by decide +kernel
theorem dX7_times_1 : decode cX7_times 1 = .ok (.iload_n 1, 1) := by decide +kernel
theorem dX7_times_2 : decode cX7_times 2 = .ok (.invokevirtual 134, 3) := by decide +kernel
theorem dX7_times_5 : decode cX7_times 5 = .ok (.ifCond .ne 5, 3) := by decide +kernel
theorem dX7_times_8 : decode cX7_times 8 = .ok (.iconst (-1), 1) := by decide +kernel
theorem dX7_times_9 : decode cX7_times 9 = .ok (.ireturn, 1) := by decide +kernel
theorem dX7_times_10 : decode cX7_times 10 = .ok (.iload_n 2, 1) := by decide +kernel
theorem dX7_times_11 : decode cX7_times 11 = .ok (.iconst 1, 1) := by decide +kernel
theorem dX7_times_12 : decode cX7_times 12 = .ok (.iconst 3, 1) := by decide +kernel
theorem dX7_times_13 : decode cX7_times 13 = .ok (.invokestatic 80, 3) := by decide +kernel
theorem dX7_times_16 : decode cX7_times 16 = .ok (.ifCond .ne 6, 3) := by decide +kernel
theorem dX7_times_19 : decode cX7_times 19 = .ok (.bipush (-2), 2) := by decide +kernel
theorem dX7_times_21 : decode cX7_times 21 = .ok (.ireturn, 1) := by decide +kernel
theorem dX7_times_22 : decode cX7_times 22 = .ok (.aload_n 0, 1) := by decide +kernel
theorem dX7_times_23 : decode cX7_times 23 = .ok (.getfield 22, 3) := by decide +kernel
theorem dX7_times_26 : decode cX7_times 26 = .ok (.iload_n 1, 1) := by decide +kernel
theorem dX7_times_27 : decode cX7_times 27 = .ok (.iaload, 1) := by decide +kernel
theorem dX7_times_28 : decode cX7_times 28 = .ok (.istore_n 3, 1) := by decide +kernel
theorem dX7_times_29 : decode cX7_times 29 = .ok (.aload_n 0, 1) := by decide +kernel
theorem dX7_times_30 : decode cX7_times 30 = .ok (.getfield 22, 3) := by decide +kernel
theorem dX7_times_33 : decode cX7_times 33 = .ok (.iload_n 1, 1) := by decide +kernel
theorem dX7_times_34 : decode cX7_times 34 = .ok (.iload_n 2, 1) := by decide +kernel
theorem dX7_times_35 : decode cX7_times 35 = .ok (.iastore, 1) := by decide +kernel
theorem dX7_times_36 : decode cX7_times 36 = .ok (.aload_n 0, 1) := by decide +kernel
theorem dX7_times_37 : decode cX7_times 37 = .ok (.iconst 0, 1) := by decide +kernel
theorem dX7_times_38 : decode cX7_times 38 = .ok (.putfield 120, 3) := by decide +kernel
theorem dX7_times_41 : decode cX7_times 41 = .ok (.iload_n 3, 1) := by decide +kernel
theorem dX7_times_42 : decode cX7_times 42 = .ok (.ireturn, 1) := by decide +kernel
theorem dX7_linesBelow_0 : decode cX7_linesBelow 0 = .ok (.iconst 0, 1) := by decide +kernel
theorem dX7_linesBelow_1 : decode cX7_linesBelow 1 = .ok (.istore_n 1, 1) := by decide +kernel
theorem dX7_linesBelow_2 : decode cX7_linesBelow 2 = .ok (.iconst 1, 1) := by decide +kernel
theorem dX7_linesBelow_3 : decode cX7_linesBelow 3 = .ok (.istore_n 2, 1) := by decide +kernel
theorem dX7_linesBelow_4 : decode cX7_linesBelow 4 = .ok (.iconst 0, 1) := by decide +kernel
theorem dX7_linesBelow_5 : decode cX7_linesBelow 5 = .ok (.istore_n 3, 1) := by decide +kernel
theorem dX7_linesBelow_6 : decode cX7_linesBelow 6 = .ok (.iload_n 3, 1) := by decide +kernel
theorem dX7_linesBelow_7 : decode cX7_linesBelow 7 = .ok (.iload_n 0, 1) := by decide +kernel
theorem dX7_linesBelow_8 : decode cX7_linesBelow 8 = .ok (.if_icmp .ge 21, 3) := by decide +kernel
theorem dX7_linesBelow_11 : decode cX7_linesBelow 11 = .ok (.iload_n 1, 1) := by decide +kernel
theorem dX7_linesBelow_12 : decode cX7_linesBelow 12 = .ok (.iload_n 2, 1) := by decide +kernel
theorem dX7_linesBelow_13 : decode cX7_linesBelow 13 = .ok (.iload_n 3, 1) := by decide +kernel
theorem dX7_linesBelow_14 : decode cX7_linesBelow 14 = .ok (.iconst 1, 1) := by decide +kernel
theorem dX7_linesBelow_15 : decode cX7_linesBelow 15 = .ok (.iadd, 1) := by decide +kernel
theorem dX7_linesBelow_16 : decode cX7_linesBelow 16 = .ok (.imul, 1) := by decide +kernel
theorem dX7_linesBelow_17 : decode cX7_linesBelow 17 = .ok (.iadd, 1) := by decide +kernel
theorem dX7_linesBelow_18 : decode cX7_linesBelow 18 = .ok (.istore_n 1, 1) := by decide +kernel
theorem dX7_linesBelow_19 : decode cX7_linesBelow 19 = .ok (.iload_n 2, 1) := by decide +kernel
theorem dX7_linesBelow_20 : decode cX7_linesBelow 20 = .ok (.iconst 4, 1) := by decide +kernel
theorem dX7_linesBelow_21 : decode cX7_linesBelow 21 = .ok (.imul, 1) := by decide +kernel
theorem dX7_linesBelow_22 : decode cX7_linesBelow 22 = .ok (.istore_n 2, 1) := by decide +kernel
theorem dX7_linesBelow_23 : decode cX7_linesBelow 23 = .ok (.iinc 3 1, 3) := by decide +kernel
theorem dX7_linesBelow_26 : decode cX7_linesBelow 26 = .ok (.goto (-20), 3) := by decide +kernel
theorem dX7_linesBelow_29 : decode cX7_linesBelow 29 = .ok (.iload_n 1, 1) := by decide +kernel
theorem dX7_linesBelow_30 : decode cX7_linesBelow 30 = .ok (.ireturn, 1) := by decide +kernel
theorem dX7_lineNumber_0 : decode cX7_lineNumber 0 = .ok (.iconst 0, 1) := by decide +kernel
theorem dX7_lineNumber_1 : decode cX7_lineNumber 1 = .ok (.istore_n 1, 1) := by decide +kernel
theorem dX7_lineNumber_2 : decode cX7_lineNumber 2 = .ok (.iconst 0, 1) := by decide +kernel
theorem dX7_lineNumber_3 : decode cX7_lineNumber 3 = .ok (.istore_n 2, 1) := by decide +kernel
theorem dX7_lineNumber_4 : decode cX7_lineNumber 4 = .ok (.iload_n 2, 1) := by decide +kernel
theorem dX7_lineNumber_5 : decode cX7_lineNumber 5 = .ok (.aload_n 0, 1) := by decide +kernel
theorem dX7_lineNumber_6 : decode cX7_lineNumber 6 = .ok (.getfield 140, 3) := by decide +kernel
theorem dX7_lineNumber_9 : decode cX7_lineNumber 9 = .ok (.if_icmp .ge 20, 3) := by decide +kernel
theorem dX7_lineNumber_12 : decode cX7_lineNumber 12 = .ok (.iconst 4, 1) := by decide +kernel
theorem dX7_lineNumber_13 : decode cX7_lineNumber 13 = .ok (.iload_n 1, 1) := by decide +kernel
theorem dX7_lineNumber_14 : decode cX7_lineNumber 14 = .ok (.imul, 1) := by decide +kernel
theorem dX7_lineNumber_15 : decode cX7_lineNumber 15 = .ok (.aload_n 0, 1) := by decide +kernel
theorem dX7_lineNumber_16 : decode cX7_lineNumber 16 = .ok (.getfield 46, 3) := by decide +kernel
theorem dX7_lineNumber_19 : decode cX7_lineNumber 19 = .ok (.iload_n 2, 1) := by decide +kernel
theorem dX7_lineNumber_20 : decode cX7_lineNumber 20 = .ok (.iaload, 1) := by decide +kernel
theorem dX7_lineNumber_21 : decode cX7_lineNumber 21 = .ok (.iadd, 1) := by decide +kernel
theorem dX7_lineNumber_22 : decode cX7_lineNumber 22 = .ok (.istore_n 1, 1) := by decide +kernel
theorem dX7_lineNumber_23 : decode cX7_lineNumber 23 = .ok (.iinc 2 1, 3) := by decide +kernel
theorem dX7_lineNumber_26 : decode cX7_lineNumber 26 = .ok (.goto (-22), 3) := by decide +kernel
theorem dX7_lineNumber_29 : decode cX7_lineNumber 29 = .ok (.aload_n 0, 1) := by decide +kernel
theorem dX7_lineNumber_30 : decode cX7_lineNumber 30 = .ok (.getfield 140, 3) := by decide +kernel
theorem dX7_lineNumber_33 : decode cX7_lineNumber 33 = .ok (.invokestatic 143, 3) := by decide +kernel
theorem dX7_lineNumber_36 : decode cX7_lineNumber 36 = .ok (.iload_n 1, 1) := by decide +kernel
theorem dX7_lineNumber_37 : decode cX7_lineNumber 37 = .ok (.aload_n 0, 1) := by decide +kernel
theorem dX7_lineNumber_38 : decode cX7_lineNumber 38 = .ok (.getfield 140, 3) := by decide +kernel
theorem dX7_lineNumber_41 : decode cX7_lineNumber 41 = .ok (.iconst 1, 1) := by decide +kernel
theorem dX7_lineNumber_42 : decode cX7_lineNumber 42 = .ok (.iadd, 1) := by decide +kernel
theorem dX7_lineNumber_43 : decode cX7_lineNumber 43 = .ok (.imul, 1) := by decide +kernel
theorem dX7_lineNumber_44 : decode cX7_lineNumber 44 = .ok (.iadd, 1) := by decide +kernel
theorem dX7_lineNumber_45 : decode cX7_lineNumber 45 = .ok (.aload_n 0, 1) := by decide +kernel
theorem dX7_lineNumber_46 : decode cX7_lineNumber 46 = .ok (.getfield 146, 3) := by decide +kernel
theorem dX7_lineNumber_49 : decode cX7_lineNumber 49 = .ok (.iadd, 1) := by decide +kernel
theorem dX7_lineNumber_50 : decode cX7_lineNumber 50 = .ok (.ireturn, 1) := by decide +kernel
theorem dX7_workOn_0 : decode cX7_workOn 0 = .ok (.aload_n 0, 1) := by decide +kernel
theorem dX7_workOn_1 : decode cX7_workOn 1 = .ok (.iconst 0, 1) := by decide +kernel
theorem dX7_workOn_2 : decode cX7_workOn 2 = .ok (.putfield 140, 3) := by decide +kernel
theorem dX7_workOn_5 : decode cX7_workOn 5 = .ok (.aload_n 0, 1) := by decide +kernel
theorem dX7_workOn_6 : decode cX7_workOn 6 = .ok (.getfield 140, 3) := by decide +kernel
theorem dX7_workOn_9 : decode cX7_workOn 9 = .ok (.iconst 5, 1) := by decide +kernel
theorem dX7_workOn_10 : decode cX7_workOn 10 = .ok (.if_icmp .ge 29, 3) := by decide +kernel
theorem dX7_workOn_13 : decode cX7_workOn 13 = .ok (.iload_n 1, 1) := by decide +kernel
theorem dX7_workOn_14 : decode cX7_workOn 14 = .ok (.aload_n 0, 1) := by decide +kernel
theorem dX7_workOn_15 : decode cX7_workOn 15 = .ok (.getfield 140, 3) := by decide +kernel
theorem dX7_workOn_18 : decode cX7_workOn 18 = .ok (.iconst 1, 1) := by decide +kernel
theorem dX7_workOn_19 : decode cX7_workOn 19 = .ok (.iadd, 1) := by decide +kernel
theorem dX7_workOn_20 : decode cX7_workOn 20 = .ok (.invokestatic 143, 3) := by decide +kernel
theorem dX7_workOn_23 : decode cX7_workOn 23 = .ok (.if_icmp .lt 16, 3) := by decide +kernel
theorem dX7_workOn_26 : decode cX7_workOn 26 = .ok (.aload_n 0, 1) := by decide +kernel
theorem dX7_workOn_27 : decode cX7_workOn 27 = .ok (.dup, 1) := by decide +kernel
theorem dX7_workOn_28 : decode cX7_workOn 28 = .ok (.getfield 140, 3) := by decide +kernel
theorem dX7_workOn_31 : decode cX7_workOn 31 = .ok (.iconst 1, 1) := by decide +kernel
theorem dX7_workOn_32 : decode cX7_workOn 32 = .ok (.iadd, 1) := by decide +kernel
theorem dX7_workOn_33 : decode cX7_workOn 33 = .ok (.putfield 140, 3) := by decide +kernel
theorem dX7_workOn_36 : decode cX7_workOn 36 = .ok (.goto (-31), 3) := by decide +kernel
theorem dX7_workOn_39 : decode cX7_workOn 39 = .ok (.iload_n 1, 1) := by decide +kernel
theorem dX7_workOn_40 : decode cX7_workOn 40 = .ok (.aload_n 0, 1) := by decide +kernel
theorem dX7_workOn_41 : decode cX7_workOn 41 = .ok (.getfield 140, 3) := by decide +kernel
theorem dX7_workOn_44 : decode cX7_workOn 44 = .ok (.invokestatic 143, 3) := by decide +kernel
theorem dX7_workOn_47 : decode cX7_workOn 47 = .ok (.isub, 1) := by decide +kernel
theorem dX7_workOn_48 : decode cX7_workOn 48 = .ok (.istore_n 2, 1) := by decide +kernel
theorem dX7_workOn_49 : decode cX7_workOn 49 = .ok (.aload_n 0, 1) := by decide +kernel
theorem dX7_workOn_50 : decode cX7_workOn 50 = .ok (.iload_n 2, 1) := by decide +kernel
theorem dX7_workOn_51 : decode cX7_workOn 51 = .ok (.aload_n 0, 1) := by decide +kernel
theorem dX7_workOn_52 : decode cX7_workOn 52 = .ok (.getfield 140, 3) := by decide +kernel
theorem dX7_workOn_55 : decode cX7_workOn 55 = .ok (.iconst 1, 1) := by decide +kernel
theorem dX7_workOn_56 : decode cX7_workOn 56 = .ok (.iadd, 1) := by decide +kernel
theorem dX7_workOn_57 : decode cX7_workOn 57 = .ok (.irem, 1) := by decide +kernel
theorem dX7_workOn_58 : decode cX7_workOn 58 = .ok (.putfield 146, 3) := by decide +kernel
theorem dX7_workOn_61 : decode cX7_workOn 61 = .ok (.iload_n 2, 1) := by decide +kernel
theorem dX7_workOn_62 : decode cX7_workOn 62 = .ok (.aload_n 0, 1) := by decide +kernel
theorem dX7_workOn_63 : decode cX7_workOn 63 = .ok (.getfield 140, 3) := by decide +kernel
theorem dX7_workOn_66 : decode cX7_workOn 66 = .ok (.iconst 1, 1) := by decide +kernel
theorem dX7_workOn_67 : decode cX7_workOn 67 = .ok (.iadd, 1) := by decide +kernel
theorem dX7_workOn_68 : decode cX7_workOn 68 = .ok (.idiv, 1) := by decide +kernel
theorem dX7_workOn_69 : decode cX7_workOn 69 = .ok (.istore_n 2, 1) := by decide +kernel
theorem dX7_workOn_70 : decode cX7_workOn 70 = .ok (.aload_n 0, 1) := by decide +kernel
theorem dX7_workOn_71 : decode cX7_workOn 71 = .ok (.getfield 140, 3) := by decide +kernel
theorem dX7_workOn_74 : decode cX7_workOn 74 = .ok (.iconst 1, 1) := by decide +kernel
theorem dX7_workOn_75 : decode cX7_workOn 75 = .ok (.isub, 1) := by decide +kernel
theorem dX7_workOn_76 : decode cX7_workOn 76 = .ok (.istore_n 3, 1) := by decide +kernel
theorem dX7_workOn_77 : decode cX7_workOn 77 = .ok (.iload_n 3, 1) := by decide +kernel
theorem dX7_workOn_78 : decode cX7_workOn 78 = .ok (.ifCond .lt 22, 3) := by decide +kernel
theorem dX7_workOn_81 : decode cX7_workOn 81 = .ok (.aload_n 0, 1) := by decide +kernel
theorem dX7_workOn_82 : decode cX7_workOn 82 = .ok (.getfield 46, 3) := by decide +kernel
theorem dX7_workOn_85 : decode cX7_workOn 85 = .ok (.iload_n 3, 1) := by decide +kernel
theorem dX7_workOn_86 : decode cX7_workOn 86 = .ok (.iload_n 2, 1) := by decide +kernel
theorem dX7_workOn_87 : decode cX7_workOn 87 = .ok (.iconst 4, 1) := by decide +kernel
theorem dX7_workOn_88 : decode cX7_workOn 88 = .ok (.irem, 1) := by decide +kernel
theorem dX7_workOn_89 : decode cX7_workOn 89 = .ok (.iastore, 1) := by decide +kernel
theorem dX7_workOn_90 : decode cX7_workOn 90 = .ok (.iload_n 2, 1) := by decide +kernel
theorem dX7_workOn_91 : decode cX7_workOn 91 = .ok (.iconst 4, 1) := by decide +kernel
theorem dX7_workOn_92 : decode cX7_workOn 92 = .ok (.idiv, 1) := by decide +kernel
theorem dX7_workOn_93 : decode cX7_workOn 93 = .ok (.istore_n 2, 1) := by decide +kernel
theorem dX7_workOn_94 : decode cX7_workOn 94 = .ok (.iinc 3 (-1), 3) := by decide +kernel
theorem dX7_workOn_97 : decode cX7_workOn 97 = .ok (.goto (-20), 3) := by decide +kernel
theorem dX7_workOn_100 : decode cX7_workOn 100 = .ok (.return_, 1) := by decide +kernel
theorem dX7_types_0 : decode cX7_types 0 = .ok (.aload_n 0, 1) := by decide +kernel
theorem dX7_types_1 : decode cX7_types 1 = .ok (.getfield 140, 3) := by decide +kernel
theorem dX7_types_4 : decode cX7_types 4 = .ok (.iconst 5, 1) := by decide +kernel
theorem dX7_types_5 : decode cX7_types 5 = .ok (.if_icmp .ne 5, 3) := by decide +kernel
theorem dX7_types_8 : decode cX7_types 8 = .ok (.iconst 0, 1) := by decide +kernel
theorem dX7_types_9 : decode cX7_types 9 = .ok (.ireturn, 1) := by decide +kernel
theorem dX7_types_10 : decode cX7_types 10 = .ok (.aload_n 0, 1) := by decide +kernel
theorem dX7_types_11 : decode cX7_types 11 = .ok (.getfield 140, 3) := by decide +kernel
theorem dX7_types_14 : decode cX7_types 14 = .ok (.istore_n 2, 1) := by decide +kernel
theorem dX7_types_15 : decode cX7_types 15 = .ok (.iload_n 2, 1) := by decide +kernel
theorem dX7_types_16 : decode cX7_types 16 = .ok (.aload_n 0, 1) := by decide +kernel
theorem dX7_types_17 : decode cX7_types 17 = .ok (.getfield 146, 3) := by decide +kernel
theorem dX7_types_20 : decode cX7_types 20 = .ok (.if_icmp .le 23, 3) := by decide +kernel
theorem dX7_types_23 : decode cX7_types 23 = .ok (.aload_n 0, 1) := by decide +kernel
theorem dX7_types_24 : decode cX7_types 24 = .ok (.getfield 46, 3) := by decide +kernel
theorem dX7_types_27 : decode cX7_types 27 = .ok (.iload_n 2, 1) := by decide +kernel
theorem dX7_types_28 : decode cX7_types 28 = .ok (.aload_n 0, 1) := by decide +kernel
theorem dX7_types_29 : decode cX7_types 29 = .ok (.getfield 46, 3) := by decide +kernel
theorem dX7_types_32 : decode cX7_types 32 = .ok (.iload_n 2, 1) := by decide +kernel
theorem dX7_types_33 : decode cX7_types 33 = .ok (.iconst 1, 1) := by decide +kernel
theorem dX7_types_34 : decode cX7_types 34 = .ok (.isub, 1) := by decide +kernel
theorem dX7_types_35 : decode cX7_types 35 = .ok (.iaload, 1) := by decide +kernel
theorem dX7_types_36 : decode cX7_types 36 = .ok (.iastore, 1) := by decide +kernel
theorem dX7_types_37 : decode cX7_types 37 = .ok (.iinc 2 (-1), 3) := by decide +kernel
theorem dX7_types_40 : decode cX7_types 40 = .ok (.goto (-25), 3) := by decide +kernel
theorem dX7_types_43 : decode cX7_types 43 = .ok (.aload_n 0, 1) := by decide +kernel
theorem dX7_types_44 : decode cX7_types 44 = .ok (.getfield 46, 3) := by decide +kernel
theorem dX7_types_47 : decode cX7_types 47 = .ok (.aload_n 0, 1) := by decide +kernel
theorem dX7_types_48 : decode cX7_types 48 = .ok (.getfield 146, 3) := by decide +kernel
theorem dX7_types_51 : decode cX7_types 51 = .ok (.iload_n 1, 1) := by decide +kernel
theorem dX7_types_52 : decode cX7_types 52 = .ok (.iastore, 1) := by decide +kernel
theorem dX7_types_53 : decode cX7_types 53 = .ok (.aload_n 0, 1) := by decide +kernel
theorem dX7_types_54 : decode cX7_types 54 = .ok (.dup, 1) := by decide +kernel
theorem dX7_types_55 : decode cX7_types 55 = .ok (.getfield 140, 3) := by decide +kernel
theorem dX7_types_58 : decode cX7_types 58 = .ok (.iconst 1, 1) := by decide +kernel
theorem dX7_types_59 : decode cX7_types 59 = .ok (.iadd, 1) := by decide +kernel
theorem dX7_types_60 : decode cX7_types 60 = .ok (.putfield 140, 3) := by decide +kernel
theorem dX7_types_63 : decode cX7_types 63 = .ok (.aload_n 0, 1) := by decide +kernel
theorem dX7_types_64 : decode cX7_types 64 = .ok (.dup, 1) := by decide +kernel
theorem dX7_types_65 : decode cX7_types 65 = .ok (.getfield 146, 3) := by decide +kernel
theorem dX7_types_68 : decode cX7_types 68 = .ok (.iconst 1, 1) := by decide +kernel
theorem dX7_types_69 : decode cX7_types 69 = .ok (.iadd, 1) := by decide +kernel
theorem dX7_types_70 : decode cX7_types 70 = .ok (.putfield 146, 3) := by decide +kernel
theorem dX7_types_73 : decode cX7_types 73 = .ok (.iconst 1, 1) := by decide +kernel
theorem dX7_types_74 : decode cX7_types 74 = .ok (.ireturn, 1) := by decide +kernel
theorem dX7_takes_0 : decode cX7_takes 0 = .ok (.aload_n 0, 1) := by decide +kernel
theorem dX7_takes_1 : decode cX7_takes 1 = .ok (.getfield 146, 3) := by decide +kernel
theorem dX7_takes_4 : decode cX7_takes 4 = .ok (.ifCond .ne 5, 3) := by decide +kernel
theorem dX7_takes_7 : decode cX7_takes 7 = .ok (.iconst 0, 1) := by decide +kernel
theorem dX7_takes_8 : decode cX7_takes 8 = .ok (.ireturn, 1) := by decide +kernel
theorem dX7_takes_9 : decode cX7_takes 9 = .ok (.aload_n 0, 1) := by decide +kernel
theorem dX7_takes_10 : decode cX7_takes 10 = .ok (.getfield 146, 3) := by decide +kernel
theorem dX7_takes_13 : decode cX7_takes 13 = .ok (.istore_n 1, 1) := by decide +kernel
theorem dX7_takes_14 : decode cX7_takes 14 = .ok (.iload_n 1, 1) := by decide +kernel
theorem dX7_takes_15 : decode cX7_takes 15 = .ok (.aload_n 0, 1) := by decide +kernel
theorem dX7_takes_16 : decode cX7_takes 16 = .ok (.getfield 140, 3) := by decide +kernel
theorem dX7_takes_19 : decode cX7_takes 19 = .ok (.if_icmp .ge 23, 3) := by decide +kernel
theorem dX7_takes_22 : decode cX7_takes 22 = .ok (.aload_n 0, 1) := by decide +kernel
theorem dX7_takes_23 : decode cX7_takes 23 = .ok (.getfield 46, 3) := by decide +kernel
theorem dX7_takes_26 : decode cX7_takes 26 = .ok (.iload_n 1, 1) := by decide +kernel
theorem dX7_takes_27 : decode cX7_takes 27 = .ok (.iconst 1, 1) := by decide +kernel
theorem dX7_takes_28 : decode cX7_takes 28 = .ok (.isub, 1) := by decide +kernel
theorem dX7_takes_29 : decode cX7_takes 29 = .ok (.aload_n 0, 1) := by decide +kernel
theorem dX7_takes_30 : decode cX7_takes 30 = .ok (.getfield 46, 3) := by decide +kernel
theorem dX7_takes_33 : decode cX7_takes 33 = .ok (.iload_n 1, 1) := by decide +kernel
theorem dX7_takes_34 : decode cX7_takes 34 = .ok (.iaload, 1) := by decide +kernel
theorem dX7_takes_35 : decode cX7_takes 35 = .ok (.iastore, 1) := by decide +kernel
theorem dX7_takes_36 : decode cX7_takes 36 = .ok (.iinc 1 1, 3) := by decide +kernel
theorem dX7_takes_39 : decode cX7_takes 39 = .ok (.goto (-25), 3) := by decide +kernel
theorem dX7_takes_42 : decode cX7_takes 42 = .ok (.aload_n 0, 1) := by decide +kernel
theorem dX7_takes_43 : decode cX7_takes 43 = .ok (.dup, 1) := by decide +kernel
theorem dX7_takes_44 : decode cX7_takes 44 = .ok (.getfield 140, 3) := by decide +kernel
theorem dX7_takes_47 : decode cX7_takes 47 = .ok (.iconst 1, 1) := by decide +kernel
theorem dX7_takes_48 : decode cX7_takes 48 = .ok (.isub, 1) := by decide +kernel
theorem dX7_takes_49 : decode cX7_takes 49 = .ok (.putfield 140, 3) := by decide +kernel
theorem dX7_takes_52 : decode cX7_takes 52 = .ok (.aload_n 0, 1) := by decide +kernel
theorem dX7_takes_53 : decode cX7_takes 53 = .ok (.dup, 1) := by decide +kernel
theorem dX7_takes_54 : decode cX7_takes 54 = .ok (.getfield 146, 3) := by decide +kernel
theorem dX7_takes_57 : decode cX7_takes 57 = .ok (.iconst 1, 1) := by decide +kernel
theorem dX7_takes_58 : decode cX7_takes 58 = .ok (.isub, 1) := by decide +kernel
theorem dX7_takes_59 : decode cX7_takes 59 = .ok (.putfield 146, 3) := by decide +kernel
theorem dX7_takes_62 : decode cX7_takes 62 = .ok (.iconst 1, 1) := by decide +kernel
theorem dX7_takes_63 : decode cX7_takes 63 = .ok (.ireturn, 1) := by decide +kernel
theorem dX7_does_0 : decode cX7_does 0 = .ok (.iload_n 1, 1) := by decide +kernel
theorem dX7_does_1 : decode cX7_does 1 = .ok (.iconst 4, 1) := by decide +kernel
theorem dX7_does_2 : decode cX7_does 2 = .ok (.if_icmp .ge 9, 3) := by decide +kernel
theorem dX7_does_5 : decode cX7_does 5 = .ok (.aload_n 0, 1) := by decide +kernel
theorem dX7_does_6 : decode cX7_does 6 = .ok (.iload_n 1, 1) := by decide +kernel
theorem dX7_does_7 : decode cX7_does 7 = .ok (.invokevirtual 149, 3) := by decide +kernel
theorem dX7_does_10 : decode cX7_does 10 = .ok (.ireturn, 1) := by decide +kernel
theorem dX7_does_11 : decode cX7_does 11 = .ok (.iload_n 1, 1) := by decide +kernel
theorem dX7_does_12 : decode cX7_does 12 = .ok (.bipush 6, 2) := by decide +kernel
theorem dX7_does_14 : decode cX7_does 14 = .ok (.if_icmp .ne 8, 3) := by decide +kernel
theorem dX7_does_17 : decode cX7_does 17 = .ok (.aload_n 0, 1) := by decide +kernel
theorem dX7_does_18 : decode cX7_does 18 = .ok (.invokevirtual 152, 3) := by decide +kernel
theorem dX7_does_21 : decode cX7_does 21 = .ok (.ireturn, 1) := by decide +kernel
theorem dX7_does_22 : decode cX7_does 22 = .ok (.iload_n 1, 1) := by decide +kernel
theorem dX7_does_23 : decode cX7_does 23 = .ok (.iconst 5, 1) := by decide +kernel
theorem dX7_does_24 : decode cX7_does 24 = .ok (.if_icmp .ne 40, 3) := by decide +kernel
theorem dX7_does_27 : decode cX7_does 27 = .ok (.aload_n 0, 1) := by decide +kernel
theorem dX7_does_28 : decode cX7_does 28 = .ok (.getfield 146, 3) := by decide +kernel
theorem dX7_does_31 : decode cX7_does 31 = .ok (.aload_n 0, 1) := by decide +kernel
theorem dX7_does_32 : decode cX7_does 32 = .ok (.getfield 140, 3) := by decide +kernel
theorem dX7_does_35 : decode cX7_does 35 = .ok (.if_icmp .ge 7, 3) := by decide +kernel
theorem dX7_does_38 : decode cX7_does 38 = .ok (.iconst 1, 1) := by decide +kernel
theorem dX7_does_39 : decode cX7_does 39 = .ok (.goto 4, 3) := by decide +kernel
theorem dX7_does_42 : decode cX7_does 42 = .ok (.iconst 0, 1) := by decide +kernel
theorem dX7_does_43 : decode cX7_does 43 = .ok (.istore_n 2, 1) := by decide +kernel
theorem dX7_does_44 : decode cX7_does 44 = .ok (.aload_n 0, 1) := by decide +kernel
theorem dX7_does_45 : decode cX7_does 45 = .ok (.dup, 1) := by decide +kernel
theorem dX7_does_46 : decode cX7_does 46 = .ok (.getfield 146, 3) := by decide +kernel
theorem dX7_does_49 : decode cX7_does 49 = .ok (.iload_n 2, 1) := by decide +kernel
theorem dX7_does_50 : decode cX7_does 50 = .ok (.ifCond .eq 7, 3) := by decide +kernel
theorem dX7_does_53 : decode cX7_does 53 = .ok (.iconst 1, 1) := by decide +kernel
theorem dX7_does_54 : decode cX7_does 54 = .ok (.goto 4, 3) := by decide +kernel
theorem dX7_does_57 : decode cX7_does 57 = .ok (.iconst 0, 1) := by decide +kernel
theorem dX7_does_58 : decode cX7_does 58 = .ok (.iadd, 1) := by decide +kernel
theorem dX7_does_59 : decode cX7_does 59 = .ok (.putfield 146, 3) := by decide +kernel
theorem dX7_does_62 : decode cX7_does 62 = .ok (.iload_n 2, 1) := by decide +kernel
theorem dX7_does_63 : decode cX7_does 63 = .ok (.ireturn, 1) := by decide +kernel
theorem dX7_does_64 : decode cX7_does 64 = .ok (.aload_n 0, 1) := by decide +kernel
theorem dX7_does_65 : decode cX7_does 65 = .ok (.getfield 146, 3) := by decide +kernel
theorem dX7_does_68 : decode cX7_does 68 = .ok (.ifCond .le 7, 3) := by decide +kernel
theorem dX7_does_71 : decode cX7_does 71 = .ok (.iconst 1, 1) := by decide +kernel
theorem dX7_does_72 : decode cX7_does 72 = .ok (.goto 4, 3) := by decide +kernel
theorem dX7_does_75 : decode cX7_does 75 = .ok (.iconst 0, 1) := by decide +kernel
theorem dX7_does_76 : decode cX7_does 76 = .ok (.istore_n 2, 1) := by decide +kernel
theorem dX7_does_77 : decode cX7_does 77 = .ok (.aload_n 0, 1) := by decide +kernel
theorem dX7_does_78 : decode cX7_does 78 = .ok (.iload_n 1, 1) := by decide +kernel
theorem dX7_does_79 : decode cX7_does 79 = .ok (.bipush 7, 2) := by decide +kernel
theorem dX7_does_81 : decode cX7_does 81 = .ok (.if_icmp .eq 7, 3) := by decide +kernel
theorem dX7_does_84 : decode cX7_does 84 = .ok (.iload_n 2, 1) := by decide +kernel
theorem dX7_does_85 : decode cX7_does 85 = .ok (.ifCond .ne 7, 3) := by decide +kernel
theorem dX7_does_88 : decode cX7_does 88 = .ok (.iconst 0, 1) := by decide +kernel
theorem dX7_does_89 : decode cX7_does 89 = .ok (.goto 9, 3) := by decide +kernel
theorem dX7_does_92 : decode cX7_does 92 = .ok (.aload_n 0, 1) := by decide +kernel
theorem dX7_does_93 : decode cX7_does 93 = .ok (.getfield 146, 3) := by decide +kernel
theorem dX7_does_96 : decode cX7_does 96 = .ok (.iconst 1, 1) := by decide +kernel
theorem dX7_does_97 : decode cX7_does 97 = .ok (.isub, 1) := by decide +kernel
theorem dX7_does_98 : decode cX7_does 98 = .ok (.putfield 146, 3) := by decide +kernel
theorem dX7_does_101 : decode cX7_does 101 = .ok (.iload_n 2, 1) := by decide +kernel
theorem dX7_does_102 : decode cX7_does 102 = .ok (.ireturn, 1) := by decide +kernel
theorem dX7_presses_0 : decode cX7_presses 0 = .ok (.aload_n 0, 1) := by decide +kernel
theorem dX7_presses_1 : decode cX7_presses 1 = .ok (.iload_n 1, 1) := by decide +kernel
theorem dX7_presses_2 : decode cX7_presses 2 = .ok (.invokevirtual 156, 3) := by decide +kernel
theorem dX7_presses_5 : decode cX7_presses 5 = .ok (.istore_n 2, 1) := by decide +kernel
theorem dX7_presses_6 : decode cX7_presses 6 = .ok (.aload_n 0, 1) := by decide +kernel
theorem dX7_presses_7 : decode cX7_presses 7 = .ok (.dup, 1) := by decide +kernel
theorem dX7_presses_8 : decode cX7_presses 8 = .ok (.getfield 159, 3) := by decide +kernel
theorem dX7_presses_11 : decode cX7_presses 11 = .ok (.iload_n 2, 1) := by decide +kernel
theorem dX7_presses_12 : decode cX7_presses 12 = .ok (.ifCond .eq 7, 3) := by decide +kernel
theorem dX7_presses_15 : decode cX7_presses 15 = .ok (.iconst 0, 1) := by decide +kernel
theorem dX7_presses_16 : decode cX7_presses 16 = .ok (.goto 4, 3) := by decide +kernel
theorem dX7_presses_19 : decode cX7_presses 19 = .ok (.iconst 1, 1) := by decide +kernel
theorem dX7_presses_20 : decode cX7_presses 20 = .ok (.iadd, 1) := by decide +kernel
theorem dX7_presses_21 : decode cX7_presses 21 = .ok (.putfield 159, 3) := by decide +kernel
theorem dX7_presses_24 : decode cX7_presses 24 = .ok (.iload_n 2, 1) := by decide +kernel
theorem dX7_presses_25 : decode cX7_presses 25 = .ok (.ireturn, 1) := by decide +kernel
theorem dX7_plays_0 : decode cX7_plays 0 = .ok (.iconst 0, 1) := by decide +kernel
theorem dX7_plays_1 : decode cX7_plays 1 = .ok (.istore_n 2, 1) := by decide +kernel
theorem dX7_plays_2 : decode cX7_plays 2 = .ok (.aload_n 0, 1) := by decide +kernel
theorem dX7_plays_3 : decode cX7_plays 3 = .ok (.getfield 49, 3) := by decide +kernel
theorem dX7_plays_6 : decode cX7_plays 6 = .ok (.iconst 0, 1) := by decide +kernel
theorem dX7_plays_7 : decode cX7_plays 7 = .ok (.iload_n 1, 1) := by decide +kernel
theorem dX7_plays_8 : decode cX7_plays 8 = .ok (.iastore, 1) := by decide +kernel
theorem dX7_plays_9 : decode cX7_plays 9 = .ok (.aload_n 0, 1) := by decide +kernel
theorem dX7_plays_10 : decode cX7_plays 10 = .ok (.getfield 52, 3) := by decide +kernel
theorem dX7_plays_13 : decode cX7_plays 13 = .ok (.iconst 0, 1) := by decide +kernel
theorem dX7_plays_14 : decode cX7_plays 14 = .ok (.aload_n 0, 1) := by decide +kernel
theorem dX7_plays_15 : decode cX7_plays 15 = .ok (.iload_n 1, 1) := by decide +kernel
theorem dX7_plays_16 : decode cX7_plays 16 = .ok (.invokevirtual 131, 3) := by decide +kernel
theorem dX7_plays_19 : decode cX7_plays 19 = .ok (.iastore, 1) := by decide +kernel
theorem dX7_plays_20 : decode cX7_plays 20 = .ok (.aload_n 0, 1) := by decide +kernel
theorem dX7_plays_21 : decode cX7_plays 21 = .ok (.getfield 55, 3) := by decide +kernel
theorem dX7_plays_24 : decode cX7_plays 24 = .ok (.iconst 0, 1) := by decide +kernel
theorem dX7_plays_25 : decode cX7_plays 25 = .ok (.iconst 0, 1) := by decide +kernel
theorem dX7_plays_26 : decode cX7_plays 26 = .ok (.iastore, 1) := by decide +kernel
theorem dX7_plays_27 : decode cX7_plays 27 = .ok (.iload_n 2, 1) := by decide +kernel
theorem dX7_plays_28 : decode cX7_plays 28 = .ok (.ifCond .lt 141, 3) := by decide +kernel
theorem dX7_plays_31 : decode cX7_plays 31 = .ok (.aload_n 0, 1) := by decide +kernel
theorem dX7_plays_32 : decode cX7_plays 32 = .ok (.getfield 49, 3) := by decide +kernel
theorem dX7_plays_35 : decode cX7_plays 35 = .ok (.iload_n 2, 1) := by decide +kernel
theorem dX7_plays_36 : decode cX7_plays 36 = .ok (.iaload, 1) := by decide +kernel
theorem dX7_plays_37 : decode cX7_plays 37 = .ok (.istore_n 3, 1) := by decide +kernel
theorem dX7_plays_38 : decode cX7_plays 38 = .ok (.aload_n 0, 1) := by decide +kernel
theorem dX7_plays_39 : decode cX7_plays 39 = .ok (.getfield 55, 3) := by decide +kernel
theorem dX7_plays_42 : decode cX7_plays 42 = .ok (.iload_n 2, 1) := by decide +kernel
theorem dX7_plays_43 : decode cX7_plays 43 = .ok (.iaload, 1) := by decide +kernel
theorem dX7_plays_44 : decode cX7_plays 44 = .ok (.aload_n 0, 1) := by decide +kernel
theorem dX7_plays_45 : decode cX7_plays 45 = .ok (.getfield 25, 3) := by decide +kernel
theorem dX7_plays_48 : decode cX7_plays 48 = .ok (.iload_n 3, 1) := by decide +kernel
theorem dX7_plays_49 : decode cX7_plays 49 = .ok (.iaload, 1) := by decide +kernel
theorem dX7_plays_50 : decode cX7_plays 50 = .ok (.if_icmp .ne 20, 3) := by decide +kernel
theorem dX7_plays_53 : decode cX7_plays 53 = .ok (.aload_n 0, 1) := by decide +kernel
theorem dX7_plays_54 : decode cX7_plays 54 = .ok (.getfield 55, 3) := by decide +kernel
theorem dX7_plays_57 : decode cX7_plays 57 = .ok (.iload_n 2, 1) := by decide +kernel
theorem dX7_plays_58 : decode cX7_plays 58 = .ok (.iconst 0, 1) := by decide +kernel
theorem dX7_plays_59 : decode cX7_plays 59 = .ok (.iastore, 1) := by decide +kernel
theorem dX7_plays_60 : decode cX7_plays 60 = .ok (.aload_n 0, 1) := by decide +kernel
theorem dX7_plays_61 : decode cX7_plays 61 = .ok (.getfield 52, 3) := by decide +kernel
theorem dX7_plays_64 : decode cX7_plays 64 = .ok (.iload_n 2, 1) := by decide +kernel
theorem dX7_plays_65 : decode cX7_plays 65 = .ok (.dup2, 1) := by decide +kernel
theorem dX7_plays_66 : decode cX7_plays 66 = .ok (.iaload, 1) := by decide +kernel
theorem dX7_plays_67 : decode cX7_plays 67 = .ok (.iconst 1, 1) := by decide +kernel
theorem dX7_plays_68 : decode cX7_plays 68 = .ok (.isub, 1) := by decide +kernel
theorem dX7_plays_69 : decode cX7_plays 69 = .ok (.iastore, 1) := by decide +kernel
theorem dX7_plays_70 : decode cX7_plays 70 = .ok (.aload_n 0, 1) := by decide +kernel
theorem dX7_plays_71 : decode cX7_plays 71 = .ok (.getfield 52, 3) := by decide +kernel
theorem dX7_plays_74 : decode cX7_plays 74 = .ok (.iload_n 2, 1) := by decide +kernel
theorem dX7_plays_75 : decode cX7_plays 75 = .ok (.iaload, 1) := by decide +kernel
theorem dX7_plays_76 : decode cX7_plays 76 = .ok (.ifCond .ne 9, 3) := by decide +kernel
theorem dX7_plays_79 : decode cX7_plays 79 = .ok (.iinc 2 (-1), 3) := by decide +kernel
theorem dX7_plays_82 : decode cX7_plays 82 = .ok (.goto 84, 3) := by decide +kernel
theorem dX7_plays_85 : decode cX7_plays 85 = .ok (.aload_n 0, 1) := by decide +kernel
theorem dX7_plays_86 : decode cX7_plays 86 = .ok (.getfield 28, 3) := by decide +kernel
theorem dX7_plays_89 : decode cX7_plays 89 = .ok (.iconst 4, 1) := by decide +kernel
theorem dX7_plays_90 : decode cX7_plays 90 = .ok (.iload_n 3, 1) := by decide +kernel
theorem dX7_plays_91 : decode cX7_plays 91 = .ok (.imul, 1) := by decide +kernel
theorem dX7_plays_92 : decode cX7_plays 92 = .ok (.aload_n 0, 1) := by decide +kernel
theorem dX7_plays_93 : decode cX7_plays 93 = .ok (.getfield 55, 3) := by decide +kernel
theorem dX7_plays_96 : decode cX7_plays 96 = .ok (.iload_n 2, 1) := by decide +kernel
theorem dX7_plays_97 : decode cX7_plays 97 = .ok (.iaload, 1) := by decide +kernel
theorem dX7_plays_98 : decode cX7_plays 98 = .ok (.iadd, 1) := by decide +kernel
theorem dX7_plays_99 : decode cX7_plays 99 = .ok (.iaload, 1) := by decide +kernel
theorem dX7_plays_100 : decode cX7_plays 100 = .ok (.istore 4, 2) := by decide +kernel
theorem dX7_plays_102 : decode cX7_plays 102 = .ok (.aload_n 0, 1) := by decide +kernel
theorem dX7_plays_103 : decode cX7_plays 103 = .ok (.getfield 55, 3) := by decide +kernel
theorem dX7_plays_106 : decode cX7_plays 106 = .ok (.iload_n 2, 1) := by decide +kernel
theorem dX7_plays_107 : decode cX7_plays 107 = .ok (.dup2, 1) := by decide +kernel
theorem dX7_plays_108 : decode cX7_plays 108 = .ok (.iaload, 1) := by decide +kernel
theorem dX7_plays_109 : decode cX7_plays 109 = .ok (.iconst 1, 1) := by decide +kernel
theorem dX7_plays_110 : decode cX7_plays 110 = .ok (.iadd, 1) := by decide +kernel
theorem dX7_plays_111 : decode cX7_plays 111 = .ok (.iastore, 1) := by decide +kernel
theorem dX7_plays_112 : decode cX7_plays 112 = .ok (.iload 4, 2) := by decide +kernel
theorem dX7_plays_114 : decode cX7_plays 114 = .ok (.bipush 8, 2) := by decide +kernel
theorem dX7_plays_116 : decode cX7_plays 116 = .ok (.if_icmp .ge 13, 3) := by decide +kernel
theorem dX7_plays_119 : decode cX7_plays 119 = .ok (.aload_n 0, 1) := by decide +kernel
theorem dX7_plays_120 : decode cX7_plays 120 = .ok (.iload 4, 2) := by decide +kernel
theorem dX7_plays_122 : decode cX7_plays 122 = .ok (.invokevirtual 162, 3) := by decide +kernel
theorem dX7_plays_125 : decode cX7_plays 125 = .ok (.pop, 1) := by decide +kernel
theorem dX7_plays_126 : decode cX7_plays 126 = .ok (.goto 40, 3) := by decide +kernel
theorem dX7_plays_129 : decode cX7_plays 129 = .ok (.iinc 2 1, 3) := by decide +kernel
theorem dX7_plays_132 : decode cX7_plays 132 = .ok (.aload_n 0, 1) := by decide +kernel
theorem dX7_plays_133 : decode cX7_plays 133 = .ok (.getfield 49, 3) := by decide +kernel
theorem dX7_plays_136 : decode cX7_plays 136 = .ok (.iload_n 2, 1) := by decide +kernel
theorem dX7_plays_137 : decode cX7_plays 137 = .ok (.iload 4, 2) := by decide +kernel
theorem dX7_plays_139 : decode cX7_plays 139 = .ok (.bipush 8, 2) := by decide +kernel
theorem dX7_plays_141 : decode cX7_plays 141 = .ok (.isub, 1) := by decide +kernel
theorem dX7_plays_142 : decode cX7_plays 142 = .ok (.iastore, 1) := by decide +kernel
theorem dX7_plays_143 : decode cX7_plays 143 = .ok (.aload_n 0, 1) := by decide +kernel
theorem dX7_plays_144 : decode cX7_plays 144 = .ok (.getfield 52, 3) := by decide +kernel
theorem dX7_plays_147 : decode cX7_plays 147 = .ok (.iload_n 2, 1) := by decide +kernel
theorem dX7_plays_148 : decode cX7_plays 148 = .ok (.aload_n 0, 1) := by decide +kernel
theorem dX7_plays_149 : decode cX7_plays 149 = .ok (.aload_n 0, 1) := by decide +kernel
theorem dX7_plays_150 : decode cX7_plays 150 = .ok (.getfield 49, 3) := by decide +kernel
theorem dX7_plays_153 : decode cX7_plays 153 = .ok (.iload_n 2, 1) := by decide +kernel
theorem dX7_plays_154 : decode cX7_plays 154 = .ok (.iaload, 1) := by decide +kernel
theorem dX7_plays_155 : decode cX7_plays 155 = .ok (.invokevirtual 131, 3) := by decide +kernel
theorem dX7_plays_158 : decode cX7_plays 158 = .ok (.iastore, 1) := by decide +kernel
theorem dX7_plays_159 : decode cX7_plays 159 = .ok (.aload_n 0, 1) := by decide +kernel
theorem dX7_plays_160 : decode cX7_plays 160 = .ok (.getfield 55, 3) := by decide +kernel
theorem dX7_plays_163 : decode cX7_plays 163 = .ok (.iload_n 2, 1) := by decide +kernel
theorem dX7_plays_164 : decode cX7_plays 164 = .ok (.iconst 0, 1) := by decide +kernel
theorem dX7_plays_165 : decode cX7_plays 165 = .ok (.iastore, 1) := by decide +kernel
theorem dX7_plays_166 : decode cX7_plays 166 = .ok (.goto (-139), 3) := by decide +kernel
theorem dX7_plays_169 : decode cX7_plays 169 = .ok (.return_, 1) := by decide +kernel
theorem dX7_press_0 : decode cX7_press 0 = .ok (.iload_n 1, 1) := by decide +kernel
theorem dX7_press_1 : decode cX7_press 1 = .ok (.iconst 0, 1) := by decide +kernel
theorem dX7_press_2 : decode cX7_press 2 = .ok (.bipush 7, 2) := by decide +kernel
theorem dX7_press_4 : decode cX7_press 4 = .ok (.invokestatic 80, 3) := by decide +kernel
theorem dX7_press_7 : decode cX7_press 7 = .ok (.ifCond .ne 6, 3) := by decide +kernel
theorem dX7_press_10 : decode cX7_press 10 = .ok (.bipush (-2), 2) := by decide +kernel
theorem dX7_press_12 : decode cX7_press 12 = .ok (.ireturn, 1) := by decide +kernel
theorem dX7_press_13 : decode cX7_press 13 = .ok (.aload_n 0, 1) := by decide +kernel
theorem dX7_press_14 : decode cX7_press 14 = .ok (.aload_n 0, 1) := by decide +kernel
theorem dX7_press_15 : decode cX7_press 15 = .ok (.getfield 111, 3) := by decide +kernel
theorem dX7_press_18 : decode cX7_press 18 = .ok (.invokevirtual 165, 3) := by decide +kernel
theorem dX7_press_21 : decode cX7_press 21 = .ok (.aload_n 0, 1) := by decide +kernel
theorem dX7_press_22 : decode cX7_press 22 = .ok (.iload_n 1, 1) := by decide +kernel
theorem dX7_press_23 : decode cX7_press 23 = .ok (.invokevirtual 162, 3) := by decide +kernel
theorem dX7_press_26 : decode cX7_press 26 = .ok (.istore_n 2, 1) := by decide +kernel
theorem dX7_press_27 : decode cX7_press 27 = .ok (.aload_n 0, 1) := by decide +kernel
theorem dX7_press_28 : decode cX7_press 28 = .ok (.aload_n 0, 1) := by decide +kernel
theorem dX7_press_29 : decode cX7_press 29 = .ok (.invokevirtual 169, 3) := by decide +kernel
theorem dX7_press_32 : decode cX7_press 32 = .ok (.putfield 111, 3) := by decide +kernel
theorem dX7_press_35 : decode cX7_press 35 = .ok (.aload_n 0, 1) := by decide +kernel
theorem dX7_press_36 : decode cX7_press 36 = .ok (.dup, 1) := by decide +kernel
theorem dX7_press_37 : decode cX7_press 37 = .ok (.getfield 114, 3) := by decide +kernel
theorem dX7_press_40 : decode cX7_press 40 = .ok (.iconst 1, 1) := by decide +kernel
theorem dX7_press_41 : decode cX7_press 41 = .ok (.iadd, 1) := by decide +kernel
theorem dX7_press_42 : decode cX7_press 42 = .ok (.putfield 114, 3) := by decide +kernel
theorem dX7_press_45 : decode cX7_press 45 = .ok (.iload_n 2, 1) := by decide +kernel
theorem dX7_press_46 : decode cX7_press 46 = .ok (.ifCond .eq 7, 3) := by decide +kernel
theorem dX7_press_49 : decode cX7_press 49 = .ok (.iconst 1, 1) := by decide +kernel
theorem dX7_press_50 : decode cX7_press 50 = .ok (.goto 4, 3) := by decide +kernel
theorem dX7_press_53 : decode cX7_press 53 = .ok (.iconst 0, 1) := by decide +kernel
theorem dX7_press_54 : decode cX7_press 54 = .ok (.ireturn, 1) := by decide +kernel
theorem dX7_play_0 : decode cX7_play 0 = .ok (.aload_n 0, 1) := by decide +kernel
theorem dX7_play_1 : decode cX7_play 1 = .ok (.iload_n 1, 1) := by decide +kernel
theorem dX7_play_2 : decode cX7_play 2 = .ok (.invokevirtual 134, 3) := by decide +kernel
theorem dX7_play_5 : decode cX7_play 5 = .ok (.ifCond .ne 5, 3) := by decide +kernel
theorem dX7_play_8 : decode cX7_play 8 = .ok (.iconst (-1), 1) := by decide +kernel
theorem dX7_play_9 : decode cX7_play 9 = .ok (.ireturn, 1) := by decide +kernel
theorem dX7_play_10 : decode cX7_play 10 = .ok (.aload_n 0, 1) := by decide +kernel
theorem dX7_play_11 : decode cX7_play 11 = .ok (.aload_n 0, 1) := by decide +kernel
theorem dX7_play_12 : decode cX7_play 12 = .ok (.getfield 111, 3) := by decide +kernel
theorem dX7_play_15 : decode cX7_play 15 = .ok (.invokevirtual 165, 3) := by decide +kernel
theorem dX7_play_18 : decode cX7_play 18 = .ok (.aload_n 0, 1) := by decide +kernel
theorem dX7_play_19 : decode cX7_play 19 = .ok (.iconst 0, 1) := by decide +kernel
theorem dX7_play_20 : decode cX7_play 20 = .ok (.putfield 159, 3) := by decide +kernel
theorem dX7_play_23 : decode cX7_play 23 = .ok (.aload_n 0, 1) := by decide +kernel
theorem dX7_play_24 : decode cX7_play 24 = .ok (.iload_n 1, 1) := by decide +kernel
theorem dX7_play_25 : decode cX7_play 25 = .ok (.invokevirtual 173, 3) := by decide +kernel
theorem dX7_play_28 : decode cX7_play 28 = .ok (.aload_n 0, 1) := by decide +kernel
theorem dX7_play_29 : decode cX7_play 29 = .ok (.aload_n 0, 1) := by decide +kernel
theorem dX7_play_30 : decode cX7_play 30 = .ok (.invokevirtual 169, 3) := by decide +kernel
theorem dX7_play_33 : decode cX7_play 33 = .ok (.putfield 111, 3) := by decide +kernel
theorem dX7_play_36 : decode cX7_play 36 = .ok (.aload_n 0, 1) := by decide +kernel
theorem dX7_play_37 : decode cX7_play 37 = .ok (.dup, 1) := by decide +kernel
theorem dX7_play_38 : decode cX7_play 38 = .ok (.getfield 114, 3) := by decide +kernel
theorem dX7_play_41 : decode cX7_play 41 = .ok (.iconst 1, 1) := by decide +kernel
theorem dX7_play_42 : decode cX7_play 42 = .ok (.iadd, 1) := by decide +kernel
theorem dX7_play_43 : decode cX7_play 43 = .ok (.putfield 114, 3) := by decide +kernel
theorem dX7_play_46 : decode cX7_play 46 = .ok (.aload_n 0, 1) := by decide +kernel
theorem dX7_play_47 : decode cX7_play 47 = .ok (.getfield 159, 3) := by decide +kernel
theorem dX7_play_50 : decode cX7_play 50 = .ok (.ireturn, 1) := by decide +kernel
theorem dX7_letter_0 : decode cX7_letter 0 = .ok (.aload_n 0, 1) := by decide +kernel
theorem dX7_letter_1 : decode cX7_letter 1 = .ok (.aload_n 0, 1) := by decide +kernel
theorem dX7_letter_2 : decode cX7_letter 2 = .ok (.getfield 111, 3) := by decide +kernel
theorem dX7_letter_5 : decode cX7_letter 5 = .ok (.invokevirtual 165, 3) := by decide +kernel
theorem dX7_letter_8 : decode cX7_letter 8 = .ok (.iload_n 1, 1) := by decide +kernel
theorem dX7_letter_9 : decode cX7_letter 9 = .ok (.ifCond .lt 20, 3) := by decide +kernel
theorem dX7_letter_12 : decode cX7_letter 12 = .ok (.iload_n 1, 1) := by decide +kernel
theorem dX7_letter_13 : decode cX7_letter 13 = .ok (.aload_n 0, 1) := by decide +kernel
theorem dX7_letter_14 : decode cX7_letter 14 = .ok (.getfield 140, 3) := by decide +kernel
theorem dX7_letter_17 : decode cX7_letter 17 = .ok (.if_icmp .ge 12, 3) := by decide +kernel
theorem dX7_letter_20 : decode cX7_letter 20 = .ok (.aload_n 0, 1) := by decide +kernel
theorem dX7_letter_21 : decode cX7_letter 21 = .ok (.getfield 46, 3) := by decide +kernel
theorem dX7_letter_24 : decode cX7_letter 24 = .ok (.iload_n 1, 1) := by decide +kernel
theorem dX7_letter_25 : decode cX7_letter 25 = .ok (.iaload, 1) := by decide +kernel
theorem dX7_letter_26 : decode cX7_letter 26 = .ok (.goto 4, 3) := by decide +kernel
theorem dX7_letter_29 : decode cX7_letter 29 = .ok (.iconst (-1), 1) := by decide +kernel
theorem dX7_letter_30 : decode cX7_letter 30 = .ok (.ireturn, 1) := by decide +kernel
theorem dX7_clear_0 : decode cX7_clear 0 = .ok (.aload_n 0, 1) := by decide +kernel
theorem dX7_clear_1 : decode cX7_clear 1 = .ok (.aload_n 0, 1) := by decide +kernel
theorem dX7_clear_2 : decode cX7_clear 2 = .ok (.getfield 111, 3) := by decide +kernel
theorem dX7_clear_5 : decode cX7_clear 5 = .ok (.invokevirtual 165, 3) := by decide +kernel
theorem dX7_clear_8 : decode cX7_clear 8 = .ok (.aload_n 0, 1) := by decide +kernel
theorem dX7_clear_9 : decode cX7_clear 9 = .ok (.iconst 0, 1) := by decide +kernel
theorem dX7_clear_10 : decode cX7_clear 10 = .ok (.putfield 111, 3) := by decide +kernel
theorem dX7_clear_13 : decode cX7_clear 13 = .ok (.aload_n 0, 1) := by decide +kernel
theorem dX7_clear_14 : decode cX7_clear 14 = .ok (.getfield 140, 3) := by decide +kernel
theorem dX7_clear_17 : decode cX7_clear 17 = .ok (.ireturn, 1) := by decide +kernel
theorem dX7_goRow_0 : decode cX7_goRow 0 = .ok (.aload_n 0, 1) := by decide +kernel
theorem dX7_goRow_1 : decode cX7_goRow 1 = .ok (.aload_n 0, 1) := by decide +kernel
theorem dX7_goRow_2 : decode cX7_goRow 2 = .ok (.getfield 111, 3) := by decide +kernel
theorem dX7_goRow_5 : decode cX7_goRow 5 = .ok (.invokevirtual 165, 3) := by decide +kernel
theorem dX7_goRow_8 : decode cX7_goRow 8 = .ok (.aload_n 0, 1) := by decide +kernel
theorem dX7_goRow_9 : decode cX7_goRow 9 = .ok (.iconst 0, 1) := by decide +kernel
theorem dX7_goRow_10 : decode cX7_goRow 10 = .ok (.putfield 159, 3) := by decide +kernel
theorem dX7_goRow_13 : decode cX7_goRow 13 = .ok (.aload_n 0, 1) := by decide +kernel
theorem dX7_goRow_14 : decode cX7_goRow 14 = .ok (.bipush (-9), 2) := by decide +kernel
theorem dX7_goRow_16 : decode cX7_goRow 16 = .ok (.putfield 176, 3) := by decide +kernel
theorem dX7_goRow_19 : decode cX7_goRow 19 = .ok (.iconst 0, 1) := by decide +kernel
theorem dX7_goRow_20 : decode cX7_goRow 20 = .ok (.istore_n 3, 1) := by decide +kernel
theorem dX7_goRow_21 : decode cX7_goRow 21 = .ok (.iload_n 3, 1) := by decide +kernel
theorem dX7_goRow_22 : decode cX7_goRow 22 = .ok (.iload_n 2, 1) := by decide +kernel
theorem dX7_goRow_23 : decode cX7_goRow 23 = .ok (.if_icmp .ge 61, 3) := by decide +kernel
theorem dX7_goRow_26 : decode cX7_goRow 26 = .ok (.aload_n 0, 1) := by decide +kernel
theorem dX7_goRow_27 : decode cX7_goRow 27 = .ok (.getfield 16, 3) := by decide +kernel
theorem dX7_goRow_30 : decode cX7_goRow 30 = .ok (.iload_n 1, 1) := by decide +kernel
theorem dX7_goRow_31 : decode cX7_goRow 31 = .ok (.iload_n 3, 1) := by decide +kernel
theorem dX7_goRow_32 : decode cX7_goRow 32 = .ok (.iadd, 1) := by decide +kernel
theorem dX7_goRow_33 : decode cX7_goRow 33 = .ok (.iaload, 1) := by decide +kernel
theorem dX7_goRow_34 : decode cX7_goRow 34 = .ok (.istore 4, 2) := by decide +kernel
theorem dX7_goRow_36 : decode cX7_goRow 36 = .ok (.iload 4, 2) := by decide +kernel
theorem dX7_goRow_38 : decode cX7_goRow 38 = .ok (.bipush 8, 2) := by decide +kernel
theorem dX7_goRow_40 : decode cX7_goRow 40 = .ok (.if_icmp .lt 15, 3) := by decide +kernel
theorem dX7_goRow_43 : decode cX7_goRow 43 = .ok (.aload_n 0, 1) := by decide +kernel
theorem dX7_goRow_44 : decode cX7_goRow 44 = .ok (.iload 4, 2) := by decide +kernel
theorem dX7_goRow_46 : decode cX7_goRow 46 = .ok (.bipush 8, 2) := by decide +kernel
theorem dX7_goRow_48 : decode cX7_goRow 48 = .ok (.isub, 1) := by decide +kernel
theorem dX7_goRow_49 : decode cX7_goRow 49 = .ok (.invokevirtual 173, 3) := by decide +kernel
theorem dX7_goRow_52 : decode cX7_goRow 52 = .ok (.goto 26, 3) := by decide +kernel
theorem dX7_goRow_55 : decode cX7_goRow 55 = .ok (.aload_n 0, 1) := by decide +kernel
theorem dX7_goRow_56 : decode cX7_goRow 56 = .ok (.iload 4, 2) := by decide +kernel
theorem dX7_goRow_58 : decode cX7_goRow 58 = .ok (.invokevirtual 162, 3) := by decide +kernel
theorem dX7_goRow_61 : decode cX7_goRow 61 = .ok (.ifCond .ne 17, 3) := by decide +kernel
theorem dX7_goRow_64 : decode cX7_goRow 64 = .ok (.aload_n 0, 1) := by decide +kernel
theorem dX7_goRow_65 : decode cX7_goRow 65 = .ok (.getfield 176, 3) := by decide +kernel
theorem dX7_goRow_68 : decode cX7_goRow 68 = .ok (.bipush (-9), 2) := by decide +kernel
theorem dX7_goRow_70 : decode cX7_goRow 70 = .ok (.if_icmp .ne 8, 3) := by decide +kernel
theorem dX7_goRow_73 : decode cX7_goRow 73 = .ok (.aload_n 0, 1) := by decide +kernel
theorem dX7_goRow_74 : decode cX7_goRow 74 = .ok (.iload_n 3, 1) := by decide +kernel
theorem dX7_goRow_75 : decode cX7_goRow 75 = .ok (.putfield 176, 3) := by decide +kernel
theorem dX7_goRow_78 : decode cX7_goRow 78 = .ok (.iinc 3 1, 3) := by decide +kernel
theorem dX7_goRow_81 : decode cX7_goRow 81 = .ok (.goto (-60), 3) := by decide +kernel
theorem dX7_goRow_84 : decode cX7_goRow 84 = .ok (.return_, 1) := by decide +kernel
theorem dX7_row_0 : decode cX7_row 0 = .ok (.aload_n 0, 1) := by decide +kernel
theorem dX7_row_1 : decode cX7_row 1 = .ok (.iconst 0, 1) := by decide +kernel
theorem dX7_row_2 : decode cX7_row 2 = .ok (.putfield 74, 3) := by decide +kernel
theorem dX7_row_5 : decode cX7_row 5 = .ok (.iload_n 1, 1) := by decide +kernel
theorem dX7_row_6 : decode cX7_row 6 = .ok (.invokestatic 87, 3) := by decide +kernel
theorem dX7_row_9 : decode cX7_row 9 = .ok (.ifCond .ne 5, 3) := by decide +kernel
theorem dX7_row_12 : decode cX7_row 12 = .ok (.iconst (-1), 1) := by decide +kernel
theorem dX7_row_13 : decode cX7_row 13 = .ok (.ireturn, 1) := by decide +kernel
theorem dX7_row_14 : decode cX7_row 14 = .ok (.iload_n 2, 1) := by decide +kernel
theorem dX7_row_15 : decode cX7_row 15 = .ok (.invokestatic 91, 3) := by decide +kernel
theorem dX7_row_18 : decode cX7_row 18 = .ok (.ifCond .eq 36, 3) := by decide +kernel
theorem dX7_row_21 : decode cX7_row 21 = .ok (.iload 4, 2) := by decide +kernel
theorem dX7_row_23 : decode cX7_row 23 = .ok (.iconst 0, 1) := by decide +kernel
theorem dX7_row_24 : decode cX7_row 24 = .ok (.bipush 20, 2) := by decide +kernel
theorem dX7_row_26 : decode cX7_row 26 = .ok (.invokestatic 80, 3) := by decide +kernel
theorem dX7_row_29 : decode cX7_row 29 = .ok (.ifCond .eq 25, 3) := by decide +kernel
theorem dX7_row_32 : decode cX7_row 32 = .ok (.iload 5, 2) := by decide +kernel
theorem dX7_row_34 : decode cX7_row 34 = .ok (.iconst 0, 1) := by decide +kernel
theorem dX7_row_35 : decode cX7_row 35 = .ok (.iconst 4, 1) := by decide +kernel
theorem dX7_row_36 : decode cX7_row 36 = .ok (.invokestatic 80, 3) := by decide +kernel
theorem dX7_row_39 : decode cX7_row 39 = .ok (.ifCond .ne 18, 3) := by decide +kernel
theorem dX7_row_42 : decode cX7_row 42 = .ok (.iload 5, 2) := by decide +kernel
theorem dX7_row_44 : decode cX7_row 44 = .ok (.bipush 10, 2) := by decide +kernel
theorem dX7_row_46 : decode cX7_row 46 = .ok (.bipush 14, 2) := by decide +kernel
theorem dX7_row_48 : decode cX7_row 48 = .ok (.invokestatic 80, 3) := by decide +kernel
theorem dX7_row_51 : decode cX7_row 51 = .ok (.ifCond .ne 6, 3) := by decide +kernel
theorem dX7_row_54 : decode cX7_row 54 = .ok (.bipush (-2), 2) := by decide +kernel
theorem dX7_row_56 : decode cX7_row 56 = .ok (.ireturn, 1) := by decide +kernel
theorem dX7_row_57 : decode cX7_row 57 = .ok (.aload_n 0, 1) := by decide +kernel
theorem dX7_row_58 : decode cX7_row 58 = .ok (.iload_n 1, 1) := by decide +kernel
theorem dX7_row_59 : decode cX7_row 59 = .ok (.iload_n 2, 1) := by decide +kernel
theorem dX7_row_60 : decode cX7_row 60 = .ok (.iload_n 3, 1) := by decide +kernel
theorem dX7_row_61 : decode cX7_row 61 = .ok (.iload 4, 2) := by decide +kernel
theorem dX7_row_63 : decode cX7_row 63 = .ok (.invokevirtual 94, 3) := by decide +kernel
theorem dX7_row_66 : decode cX7_row 66 = .ok (.istore 6, 2) := by decide +kernel
theorem dX7_row_68 : decode cX7_row 68 = .ok (.iload 6, 2) := by decide +kernel
theorem dX7_row_70 : decode cX7_row 70 = .ok (.ifCond .eq 10, 3) := by decide +kernel
theorem dX7_row_73 : decode cX7_row 73 = .ok (.aload_n 0, 1) := by decide +kernel
theorem dX7_row_74 : decode cX7_row 74 = .ok (.iload 6, 2) := by decide +kernel
theorem dX7_row_76 : decode cX7_row 76 = .ok (.invokevirtual 98, 3) := by decide +kernel
theorem dX7_row_79 : decode cX7_row 79 = .ok (.ireturn, 1) := by decide +kernel
theorem dX7_row_80 : decode cX7_row 80 = .ok (.bipush 60, 2) := by decide +kernel
theorem dX7_row_82 : decode cX7_row 82 = .ok (.iload_n 1, 1) := by decide +kernel
theorem dX7_row_83 : decode cX7_row 83 = .ok (.imul, 1) := by decide +kernel
theorem dX7_row_84 : decode cX7_row 84 = .ok (.iload_n 3, 1) := by decide +kernel
theorem dX7_row_85 : decode cX7_row 85 = .ok (.iadd, 1) := by decide +kernel
theorem dX7_row_86 : decode cX7_row 86 = .ok (.istore 7, 2) := by decide +kernel
theorem dX7_row_88 : decode cX7_row 88 = .ok (.iconst 1, 1) := by decide +kernel
theorem dX7_row_89 : decode cX7_row 89 = .ok (.istore 8, 2) := by decide +kernel
theorem dX7_row_91 : decode cX7_row 91 = .ok (.iconst 0, 1) := by decide +kernel
theorem dX7_row_92 : decode cX7_row 92 = .ok (.istore 9, 2) := by decide +kernel
theorem dX7_row_94 : decode cX7_row 94 = .ok (.iload 9, 2) := by decide +kernel
theorem dX7_row_96 : decode cX7_row 96 = .ok (.iload 4, 2) := by decide +kernel
theorem dX7_row_98 : decode cX7_row 98 = .ok (.if_icmp .ge 78, 3) := by decide +kernel
theorem dX7_row_101 : decode cX7_row 101 = .ok (.aload_n 0, 1) := by decide +kernel
theorem dX7_row_102 : decode cX7_row 102 = .ok (.getfield 16, 3) := by decide +kernel
theorem dX7_row_105 : decode cX7_row 105 = .ok (.iload 7, 2) := by decide +kernel
theorem dX7_row_107 : decode cX7_row 107 = .ok (.iload 9, 2) := by decide +kernel
theorem dX7_row_109 : decode cX7_row 109 = .ok (.iadd, 1) := by decide +kernel
theorem dX7_row_110 : decode cX7_row 110 = .ok (.iaload, 1) := by decide +kernel
theorem dX7_row_111 : decode cX7_row 111 = .ok (.iconst 0, 1) := by decide +kernel
theorem dX7_row_112 : decode cX7_row 112 = .ok (.bipush 10, 2) := by decide +kernel
theorem dX7_row_114 : decode cX7_row 114 = .ok (.invokestatic 80, 3) := by decide +kernel
theorem dX7_row_117 : decode cX7_row 117 = .ok (.ifCond .ne 6, 3) := by decide +kernel
theorem dX7_row_120 : decode cX7_row 120 = .ok (.bipush (-2), 2) := by decide +kernel
theorem dX7_row_122 : decode cX7_row 122 = .ok (.ireturn, 1) := by decide +kernel
theorem dX7_row_123 : decode cX7_row 123 = .ok (.iload 8, 2) := by decide +kernel
theorem dX7_row_125 : decode cX7_row 125 = .ok (.ifCond .eq 42, 3) := by decide +kernel
theorem dX7_row_128 : decode cX7_row 128 = .ok (.aload_n 0, 1) := by decide +kernel
theorem dX7_row_129 : decode cX7_row 129 = .ok (.getfield 16, 3) := by decide +kernel
theorem dX7_row_132 : decode cX7_row 132 = .ok (.iload 7, 2) := by decide +kernel
theorem dX7_row_134 : decode cX7_row 134 = .ok (.iload 9, 2) := by decide +kernel
theorem dX7_row_136 : decode cX7_row 136 = .ok (.iadd, 1) := by decide +kernel
theorem dX7_row_137 : decode cX7_row 137 = .ok (.iaload, 1) := by decide +kernel
theorem dX7_row_138 : decode cX7_row 138 = .ok (.bipush 8, 2) := by decide +kernel
theorem dX7_row_140 : decode cX7_row 140 = .ok (.if_icmp .lt 23, 3) := by decide +kernel
theorem dX7_row_143 : decode cX7_row 143 = .ok (.aload_n 0, 1) := by decide +kernel
theorem dX7_row_144 : decode cX7_row 144 = .ok (.aload_n 0, 1) := by decide +kernel
theorem dX7_row_145 : decode cX7_row 145 = .ok (.getfield 16, 3) := by decide +kernel
theorem dX7_row_148 : decode cX7_row 148 = .ok (.iload 7, 2) := by decide +kernel
theorem dX7_row_150 : decode cX7_row 150 = .ok (.iload 9, 2) := by decide +kernel
theorem dX7_row_152 : decode cX7_row 152 = .ok (.iadd, 1) := by decide +kernel
theorem dX7_row_153 : decode cX7_row 153 = .ok (.iaload, 1) := by decide +kernel
theorem dX7_row_154 : decode cX7_row 154 = .ok (.bipush 8, 2) := by decide +kernel
theorem dX7_row_156 : decode cX7_row 156 = .ok (.isub, 1) := by decide +kernel
theorem dX7_row_157 : decode cX7_row 157 = .ok (.invokevirtual 134, 3) := by decide +kernel
theorem dX7_row_160 : decode cX7_row 160 = .ok (.ifCond .eq 7, 3) := by decide +kernel
theorem dX7_row_163 : decode cX7_row 163 = .ok (.iconst 1, 1) := by decide +kernel
theorem dX7_row_164 : decode cX7_row 164 = .ok (.goto 4, 3) := by decide +kernel
theorem dX7_row_167 : decode cX7_row 167 = .ok (.iconst 0, 1) := by decide +kernel
theorem dX7_row_168 : decode cX7_row 168 = .ok (.istore 8, 2) := by decide +kernel
theorem dX7_row_170 : decode cX7_row 170 = .ok (.iinc 9 1, 3) := by decide +kernel
theorem dX7_row_173 : decode cX7_row 173 = .ok (.goto (-79), 3) := by decide +kernel
theorem dX7_row_176 : decode cX7_row 176 = .ok (.iload 8, 2) := by decide +kernel
theorem dX7_row_178 : decode cX7_row 178 = .ok (.ifCond .ne 5, 3) := by decide +kernel
theorem dX7_row_181 : decode cX7_row 181 = .ok (.iconst (-1), 1) := by decide +kernel
theorem dX7_row_182 : decode cX7_row 182 = .ok (.ireturn, 1) := by decide +kernel
theorem dX7_row_183 : decode cX7_row 183 = .ok (.aload_n 0, 1) := by decide +kernel
theorem dX7_row_184 : decode cX7_row 184 = .ok (.iload 7, 2) := by decide +kernel
theorem dX7_row_186 : decode cX7_row 186 = .ok (.iload 4, 2) := by decide +kernel
theorem dX7_row_188 : decode cX7_row 188 = .ok (.invokevirtual 179, 3) := by decide +kernel
theorem dX7_row_191 : decode cX7_row 191 = .ok (.aload_n 0, 1) := by decide +kernel
theorem dX7_row_192 : decode cX7_row 192 = .ok (.iload 5, 2) := by decide +kernel
theorem dX7_row_194 : decode cX7_row 194 = .ok (.invokevirtual 183, 3) := by decide +kernel
theorem dX7_row_197 : decode cX7_row 197 = .ok (.ireturn, 1) := by decide +kernel
theorem dX7_tellRow_0 : decode cX7_tellRow 0 = .ok (.iload_n 1, 1) := by decide +kernel
theorem dX7_tellRow_1 : decode cX7_tellRow 1 = .ok (.bipush 10, 2) := by decide +kernel
theorem dX7_tellRow_3 : decode cX7_tellRow 3 = .ok (.if_icmp .lt 29, 3) := by decide +kernel
theorem dX7_tellRow_6 : decode cX7_tellRow 6 = .ok (.iload_n 1, 1) := by decide +kernel
theorem dX7_tellRow_7 : decode cX7_tellRow 7 = .ok (.bipush 10, 2) := by decide +kernel
theorem dX7_tellRow_9 : decode cX7_tellRow 9 = .ok (.isub, 1) := by decide +kernel
theorem dX7_tellRow_10 : decode cX7_tellRow 10 = .ok (.aload_n 0, 1) := by decide +kernel
theorem dX7_tellRow_11 : decode cX7_tellRow 11 = .ok (.getfield 140, 3) := by decide +kernel
theorem dX7_tellRow_14 : decode cX7_tellRow 14 = .ok (.if_icmp .ge 15, 3) := by decide +kernel
theorem dX7_tellRow_17 : decode cX7_tellRow 17 = .ok (.aload_n 0, 1) := by decide +kernel
theorem dX7_tellRow_18 : decode cX7_tellRow 18 = .ok (.getfield 46, 3) := by decide +kernel
theorem dX7_tellRow_21 : decode cX7_tellRow 21 = .ok (.iload_n 1, 1) := by decide +kernel
theorem dX7_tellRow_22 : decode cX7_tellRow 22 = .ok (.bipush 10, 2) := by decide +kernel
theorem dX7_tellRow_24 : decode cX7_tellRow 24 = .ok (.isub, 1) := by decide +kernel
theorem dX7_tellRow_25 : decode cX7_tellRow 25 = .ok (.iaload, 1) := by decide +kernel
theorem dX7_tellRow_26 : decode cX7_tellRow 26 = .ok (.goto 5, 3) := by decide +kernel
theorem dX7_tellRow_29 : decode cX7_tellRow 29 = .ok (.bipush (-9), 2) := by decide +kernel
theorem dX7_tellRow_31 : decode cX7_tellRow 31 = .ok (.ireturn, 1) := by decide +kernel
theorem dX7_tellRow_32 : decode cX7_tellRow 32 = .ok (.iload_n 1, 1) := by decide +kernel
theorem dX7_tellRow_33 : decode cX7_tellRow 33 = .ok (.tableswitch 51 0 3 #[31, 36, 41, 46], 31) := by decide +kernel
theorem dX7_tellRow_64 : decode cX7_tellRow 64 = .ok (.aload_n 0, 1) := by decide +kernel
theorem dX7_tellRow_65 : decode cX7_tellRow 65 = .ok (.getfield 140, 3) := by decide +kernel
theorem dX7_tellRow_68 : decode cX7_tellRow 68 = .ok (.ireturn, 1) := by decide +kernel
theorem dX7_tellRow_69 : decode cX7_tellRow 69 = .ok (.aload_n 0, 1) := by decide +kernel
theorem dX7_tellRow_70 : decode cX7_tellRow 70 = .ok (.getfield 146, 3) := by decide +kernel
theorem dX7_tellRow_73 : decode cX7_tellRow 73 = .ok (.ireturn, 1) := by decide +kernel
theorem dX7_tellRow_74 : decode cX7_tellRow 74 = .ok (.aload_n 0, 1) := by decide +kernel
theorem dX7_tellRow_75 : decode cX7_tellRow 75 = .ok (.getfield 176, 3) := by decide +kernel
theorem dX7_tellRow_78 : decode cX7_tellRow 78 = .ok (.ireturn, 1) := by decide +kernel
theorem dX7_tellRow_79 : decode cX7_tellRow 79 = .ok (.aload_n 0, 1) := by decide +kernel
theorem dX7_tellRow_80 : decode cX7_tellRow 80 = .ok (.getfield 159, 3) := by decide +kernel
theorem dX7_tellRow_83 : decode cX7_tellRow 83 = .ok (.ireturn, 1) := by decide +kernel

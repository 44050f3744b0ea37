theorem dX7_tellRow_84 : decode cX7_tellRow 84 = .ok (.iconst 0, 1) := by decide +kernel
theorem dX7_tellRow_85 : decode cX7_tellRow 85 = .ok (.istore_n 2, 1) := by decide +kernel
theorem dX7_tellRow_86 : decode cX7_tellRow 86 = .ok (.iconst 0, 1) := by decide +kernel
theorem dX7_tellRow_87 : decode cX7_tellRow 87 = .ok (.istore_n 3, 1) := by decide +kernel
theorem dX7_tellRow_88 : decode cX7_tellRow 88 = .ok (.iload_n 3, 1) := by decide +kernel
theorem dX7_tellRow_89 : decode cX7_tellRow 89 = .ok (.aload_n 0, 1) := by decide +kernel
theorem dX7_tellRow_90 : decode cX7_tellRow 90 = .ok (.getfield 140, 3) := by decide +kernel
theorem dX7_tellRow_93 : decode cX7_tellRow 93 = .ok (.if_icmp .ge 23, 3) := by decide +kernel
theorem dX7_tellRow_96 : decode cX7_tellRow 96 = .ok (.bipush 10, 2) := by decide +kernel
theorem dX7_tellRow_98 : decode cX7_tellRow 98 = .ok (.iload_n 2, 1) := by decide +kernel
theorem dX7_tellRow_99 : decode cX7_tellRow 99 = .ok (.imul, 1) := by decide +kernel
theorem dX7_tellRow_100 : decode cX7_tellRow 100 = .ok (.aload_n 0, 1) := by decide +kernel
theorem dX7_tellRow_101 : decode cX7_tellRow 101 = .ok (.getfield 46, 3) := by decide +kernel
theorem dX7_tellRow_104 : decode cX7_tellRow 104 = .ok (.iload_n 3, 1) := by decide +kernel
theorem dX7_tellRow_105 : decode cX7_tellRow 105 = .ok (.iaload, 1) := by decide +kernel
theorem dX7_tellRow_106 : decode cX7_tellRow 106 = .ok (.iadd, 1) := by decide +kernel
theorem dX7_tellRow_107 : decode cX7_tellRow 107 = .ok (.iconst 1, 1) := by decide +kernel
theorem dX7_tellRow_108 : decode cX7_tellRow 108 = .ok (.iadd, 1) := by decide +kernel
theorem dX7_tellRow_109 : decode cX7_tellRow 109 = .ok (.istore_n 2, 1) := by decide +kernel
theorem dX7_tellRow_110 : decode cX7_tellRow 110 = .ok (.iinc 3 1, 3) := by decide +kernel
theorem dX7_tellRow_113 : decode cX7_tellRow 113 = .ok (.goto (-25), 3) := by decide +kernel
theorem dX7_tellRow_116 : decode cX7_tellRow 116 = .ok (.iload_n 2, 1) := by decide +kernel
theorem dX7_tellRow_117 : decode cX7_tellRow 117 = .ok (.ireturn, 1) := by decide +kernel
theorem dX7_keysThere_0 : decode cX7_keysThere 0 = .ok (.bipush 8, 2) := by decide +kernel
theorem dX7_keysThere_2 : decode cX7_keysThere 2 = .ok (.aload_n 0, 1) := by decide +kernel
theorem dX7_keysThere_3 : decode cX7_keysThere 3 = .ok (.getfield 84, 3) := by decide +kernel
theorem dX7_keysThere_6 : decode cX7_keysThere 6 = .ok (.iadd, 1) := by decide +kernel
theorem dX7_keysThere_7 : decode cX7_keysThere 7 = .ok (.ireturn, 1) := by decide +kernel
theorem dX7_isKey_0 : decode cX7_isKey 0 = .ok (.iload_n 1, 1) := by decide +kernel
theorem dX7_isKey_1 : decode cX7_isKey 1 = .ok (.ifCond .lt 15, 3) := by decide +kernel
theorem dX7_isKey_4 : decode cX7_isKey 4 = .ok (.iload_n 1, 1) := by decide +kernel
theorem dX7_isKey_5 : decode cX7_isKey 5 = .ok (.aload_n 0, 1) := by decide +kernel
theorem dX7_isKey_6 : decode cX7_isKey 6 = .ok (.invokevirtual 186, 3) := by decide +kernel
theorem dX7_isKey_9 : decode cX7_isKey 9 = .ok (.if_icmp .ge 7, 3) := by decide +kernel
theorem dX7_isKey_12 : decode cX7_isKey 12 = .ok (.iconst 1, 1) := by decide +kernel
theorem dX7_isKey_13 : decode cX7_isKey 13 = .ok (.goto 4, 3) := by decide +kernel
theorem dX7_isKey_16 : decode cX7_isKey 16 = .ok (.iconst 0, 1) := by decide +kernel
theorem dX7_isKey_17 : decode cX7_isKey 17 = .ok (.ireturn, 1) := by decide +kernel
theorem dX7_findMakes_0 : decode cX7_findMakes 0 = .ok (.iconst 0, 1) := by decide +kernel
theorem dX7_findMakes_1 : decode cX7_findMakes 1 = .ok (.istore_n 1, 1) := by decide +kernel
theorem dX7_findMakes_2 : decode cX7_findMakes 2 = .ok (.iload_n 1, 1) := by decide +kernel
theorem dX7_findMakes_3 : decode cX7_findMakes 3 = .ok (.bipush 8, 2) := by decide +kernel
theorem dX7_findMakes_5 : decode cX7_findMakes 5 = .ok (.if_icmp .ge 58, 3) := by decide +kernel
theorem dX7_findMakes_8 : decode cX7_findMakes 8 = .ok (.aload_n 0, 1) := by decide +kernel
theorem dX7_findMakes_9 : decode cX7_findMakes 9 = .ok (.getfield 189, 3) := by decide +kernel
theorem dX7_findMakes_12 : decode cX7_findMakes 12 = .ok (.ifCond .ne 51, 3) := by decide +kernel
theorem dX7_findMakes_15 : decode cX7_findMakes 15 = .ok (.iconst 0, 1) := by decide +kernel
theorem dX7_findMakes_16 : decode cX7_findMakes 16 = .ok (.istore_n 2, 1) := by decide +kernel
theorem dX7_findMakes_17 : decode cX7_findMakes 17 = .ok (.iload_n 2, 1) := by decide +kernel
theorem dX7_findMakes_18 : decode cX7_findMakes 18 = .ok (.sipush 7737, 3) := by decide +kernel
theorem dX7_findMakes_21 : decode cX7_findMakes 21 = .ok (.if_icmp .ge 36, 3) := by decide +kernel
theorem dX7_findMakes_24 : decode cX7_findMakes 24 = .ok (.aload_n 0, 1) := by decide +kernel
theorem dX7_findMakes_25 : decode cX7_findMakes 25 = .ok (.iload_n 2, 1) := by decide +kernel
theorem dX7_findMakes_26 : decode cX7_findMakes 26 = .ok (.invokevirtual 165, 3) := by decide +kernel
theorem dX7_findMakes_29 : decode cX7_findMakes 29 = .ok (.aload_n 0, 1) := by decide +kernel
theorem dX7_findMakes_30 : decode cX7_findMakes 30 = .ok (.iload_n 1, 1) := by decide +kernel
theorem dX7_findMakes_31 : decode cX7_findMakes 31 = .ok (.invokevirtual 162, 3) := by decide +kernel
theorem dX7_findMakes_34 : decode cX7_findMakes 34 = .ok (.pop, 1) := by decide +kernel
theorem dX7_findMakes_35 : decode cX7_findMakes 35 = .ok (.aload_n 0, 1) := by decide +kernel
theorem dX7_findMakes_36 : decode cX7_findMakes 36 = .ok (.getfield 59, 3) := by decide +kernel
theorem dX7_findMakes_39 : decode cX7_findMakes 39 = .ok (.sipush 7737, 3) := by decide +kernel
theorem dX7_findMakes_42 : decode cX7_findMakes 42 = .ok (.iload_n 1, 1) := by decide +kernel
theorem dX7_findMakes_43 : decode cX7_findMakes 43 = .ok (.imul, 1) := by decide +kernel
theorem dX7_findMakes_44 : decode cX7_findMakes 44 = .ok (.iload_n 2, 1) := by decide +kernel
theorem dX7_findMakes_45 : decode cX7_findMakes 45 = .ok (.iadd, 1) := by decide +kernel
theorem dX7_findMakes_46 : decode cX7_findMakes 46 = .ok (.aload_n 0, 1) := by decide +kernel
theorem dX7_findMakes_47 : decode cX7_findMakes 47 = .ok (.invokevirtual 169, 3) := by decide +kernel
theorem dX7_findMakes_50 : decode cX7_findMakes 50 = .ok (.iastore, 1) := by decide +kernel
theorem dX7_findMakes_51 : decode cX7_findMakes 51 = .ok (.iinc 2 1, 3) := by decide +kernel
theorem dX7_findMakes_54 : decode cX7_findMakes 54 = .ok (.goto (-37), 3) := by decide +kernel
theorem dX7_findMakes_57 : decode cX7_findMakes 57 = .ok (.iinc 1 1, 3) := by decide +kernel
theorem dX7_findMakes_60 : decode cX7_findMakes 60 = .ok (.goto (-58), 3) := by decide +kernel
theorem dX7_findMakes_63 : decode cX7_findMakes 63 = .ok (.aload_n 0, 1) := by decide +kernel
theorem dX7_findMakes_64 : decode cX7_findMakes 64 = .ok (.iconst 1, 1) := by decide +kernel
theorem dX7_findMakes_65 : decode cX7_findMakes 65 = .ok (.putfield 189, 3) := by decide +kernel
theorem dX7_findMakes_68 : decode cX7_findMakes 68 = .ok (.iconst 0, 1) := by decide +kernel
theorem dX7_findMakes_69 : decode cX7_findMakes 69 = .ok (.istore_n 1, 1) := by decide +kernel
theorem dX7_findMakes_70 : decode cX7_findMakes 70 = .ok (.iload_n 1, 1) := by decide +kernel
theorem dX7_findMakes_71 : decode cX7_findMakes 71 = .ok (.aload_n 0, 1) := by decide +kernel
theorem dX7_findMakes_72 : decode cX7_findMakes 72 = .ok (.getfield 84, 3) := by decide +kernel
theorem dX7_findMakes_75 : decode cX7_findMakes 75 = .ok (.if_icmp .ge 52, 3) := by decide +kernel
theorem dX7_findMakes_78 : decode cX7_findMakes 78 = .ok (.aload_n 0, 1) := by decide +kernel
theorem dX7_findMakes_79 : decode cX7_findMakes 79 = .ok (.getfield 120, 3) := by decide +kernel
theorem dX7_findMakes_82 : decode cX7_findMakes 82 = .ok (.ifCond .ne 45, 3) := by decide +kernel
theorem dX7_findMakes_85 : decode cX7_findMakes 85 = .ok (.iconst 0, 1) := by decide +kernel
theorem dX7_findMakes_86 : decode cX7_findMakes 86 = .ok (.istore_n 2, 1) := by decide +kernel
theorem dX7_findMakes_87 : decode cX7_findMakes 87 = .ok (.iload_n 2, 1) := by decide +kernel
theorem dX7_findMakes_88 : decode cX7_findMakes 88 = .ok (.sipush 7737, 3) := by decide +kernel
theorem dX7_findMakes_91 : decode cX7_findMakes 91 = .ok (.if_icmp .ge 30, 3) := by decide +kernel
theorem dX7_findMakes_94 : decode cX7_findMakes 94 = .ok (.aload_n 0, 1) := by decide +kernel
theorem dX7_findMakes_95 : decode cX7_findMakes 95 = .ok (.getfield 59, 3) := by decide +kernel
theorem dX7_findMakes_98 : decode cX7_findMakes 98 = .ok (.sipush 7737, 3) := by decide +kernel
theorem dX7_findMakes_101 : decode cX7_findMakes 101 = .ok (.bipush 8, 2) := by decide +kernel
theorem dX7_findMakes_103 : decode cX7_findMakes 103 = .ok (.iload_n 1, 1) := by decide +kernel
theorem dX7_findMakes_104 : decode cX7_findMakes 104 = .ok (.iadd, 1) := by decide +kernel
theorem dX7_findMakes_105 : decode cX7_findMakes 105 = .ok (.imul, 1) := by decide +kernel
theorem dX7_findMakes_106 : decode cX7_findMakes 106 = .ok (.iload_n 2, 1) := by decide +kernel
theorem dX7_findMakes_107 : decode cX7_findMakes 107 = .ok (.iadd, 1) := by decide +kernel
theorem dX7_findMakes_108 : decode cX7_findMakes 108 = .ok (.aload_n 0, 1) := by decide +kernel
theorem dX7_findMakes_109 : decode cX7_findMakes 109 = .ok (.iload_n 1, 1) := by decide +kernel
theorem dX7_findMakes_110 : decode cX7_findMakes 110 = .ok (.iload_n 2, 1) := by decide +kernel
theorem dX7_findMakes_111 : decode cX7_findMakes 111 = .ok (.invokevirtual 192, 3) := by decide +kernel
theorem dX7_findMakes_114 : decode cX7_findMakes 114 = .ok (.iastore, 1) := by decide +kernel
theorem dX7_findMakes_115 : decode cX7_findMakes 115 = .ok (.iinc 2 1, 3) := by decide +kernel
theorem dX7_findMakes_118 : decode cX7_findMakes 118 = .ok (.goto (-31), 3) := by decide +kernel
theorem dX7_findMakes_121 : decode cX7_findMakes 121 = .ok (.iinc 1 1, 3) := by decide +kernel
theorem dX7_findMakes_124 : decode cX7_findMakes 124 = .ok (.goto (-54), 3) := by decide +kernel
theorem dX7_findMakes_127 : decode cX7_findMakes 127 = .ok (.aload_n 0, 1) := by decide +kernel
theorem dX7_findMakes_128 : decode cX7_findMakes 128 = .ok (.iconst 1, 1) := by decide +kernel
theorem dX7_findMakes_129 : decode cX7_findMakes 129 = .ok (.putfield 120, 3) := by decide +kernel
theorem dX7_findMakes_132 : decode cX7_findMakes 132 = .ok (.return_, 1) := by decide +kernel
theorem dX7_madeBy_0 : decode cX7_madeBy 0 = .ok (.iload_n 2, 1) := by decide +kernel
theorem dX7_madeBy_1 : decode cX7_madeBy 1 = .ok (.istore_n 3, 1) := by decide +kernel
theorem dX7_madeBy_2 : decode cX7_madeBy 2 = .ok (.aload_n 0, 1) := by decide +kernel
theorem dX7_madeBy_3 : decode cX7_madeBy 3 = .ok (.iload_n 1, 1) := by decide +kernel
theorem dX7_madeBy_4 : decode cX7_madeBy 4 = .ok (.invokevirtual 131, 3) := by decide +kernel
theorem dX7_madeBy_7 : decode cX7_madeBy 7 = .ok (.istore 4, 2) := by decide +kernel
theorem dX7_madeBy_9 : decode cX7_madeBy 9 = .ok (.iconst 0, 1) := by decide +kernel
theorem dX7_madeBy_10 : decode cX7_madeBy 10 = .ok (.istore 5, 2) := by decide +kernel
theorem dX7_madeBy_12 : decode cX7_madeBy 12 = .ok (.iload 5, 2) := by decide +kernel
theorem dX7_madeBy_14 : decode cX7_madeBy 14 = .ok (.iload 4, 2) := by decide +kernel
theorem dX7_madeBy_16 : decode cX7_madeBy 16 = .ok (.if_icmp .ge 52, 3) := by decide +kernel
theorem dX7_madeBy_19 : decode cX7_madeBy 19 = .ok (.iconst 0, 1) := by decide +kernel
theorem dX7_madeBy_20 : decode cX7_madeBy 20 = .ok (.istore 6, 2) := by decide +kernel
theorem dX7_madeBy_22 : decode cX7_madeBy 22 = .ok (.iload 6, 2) := by decide +kernel
theorem dX7_madeBy_24 : decode cX7_madeBy 24 = .ok (.aload_n 0, 1) := by decide +kernel
theorem dX7_madeBy_25 : decode cX7_madeBy 25 = .ok (.getfield 25, 3) := by decide +kernel
theorem dX7_madeBy_28 : decode cX7_madeBy 28 = .ok (.iload_n 1, 1) := by decide +kernel
theorem dX7_madeBy_29 : decode cX7_madeBy 29 = .ok (.iaload, 1) := by decide +kernel
theorem dX7_madeBy_30 : decode cX7_madeBy 30 = .ok (.if_icmp .ge 32, 3) := by decide +kernel
theorem dX7_madeBy_33 : decode cX7_madeBy 33 = .ok (.aload_n 0, 1) := by decide +kernel
theorem dX7_madeBy_34 : decode cX7_madeBy 34 = .ok (.getfield 59, 3) := by decide +kernel
theorem dX7_madeBy_37 : decode cX7_madeBy 37 = .ok (.sipush 7737, 3) := by decide +kernel
theorem dX7_madeBy_40 : decode cX7_madeBy 40 = .ok (.aload_n 0, 1) := by decide +kernel
theorem dX7_madeBy_41 : decode cX7_madeBy 41 = .ok (.getfield 28, 3) := by decide +kernel
theorem dX7_madeBy_44 : decode cX7_madeBy 44 = .ok (.iconst 4, 1) := by decide +kernel
theorem dX7_madeBy_45 : decode cX7_madeBy 45 = .ok (.iload_n 1, 1) := by decide +kernel
theorem dX7_madeBy_46 : decode cX7_madeBy 46 = .ok (.imul, 1) := by decide +kernel
theorem dX7_madeBy_47 : decode cX7_madeBy 47 = .ok (.iload 6, 2) := by decide +kernel
theorem dX7_madeBy_49 : decode cX7_madeBy 49 = .ok (.iadd, 1) := by decide +kernel
theorem dX7_madeBy_50 : decode cX7_madeBy 50 = .ok (.iaload, 1) := by decide +kernel
theorem dX7_madeBy_51 : decode cX7_madeBy 51 = .ok (.imul, 1) := by decide +kernel
theorem dX7_madeBy_52 : decode cX7_madeBy 52 = .ok (.iload_n 3, 1) := by decide +kernel
theorem dX7_madeBy_53 : decode cX7_madeBy 53 = .ok (.iadd, 1) := by decide +kernel
theorem dX7_madeBy_54 : decode cX7_madeBy 54 = .ok (.iaload, 1) := by decide +kernel
theorem dX7_madeBy_55 : decode cX7_madeBy 55 = .ok (.istore_n 3, 1) := by decide +kernel
theorem dX7_madeBy_56 : decode cX7_madeBy 56 = .ok (.iinc 6 1, 3) := by decide +kernel
theorem dX7_madeBy_59 : decode cX7_madeBy 59 = .ok (.goto (-37), 3) := by decide +kernel
theorem dX7_madeBy_62 : decode cX7_madeBy 62 = .ok (.iinc 5 1, 3) := by decide +kernel
theorem dX7_madeBy_65 : decode cX7_madeBy 65 = .ok (.goto (-53), 3) := by decide +kernel
theorem dX7_madeBy_68 : decode cX7_madeBy 68 = .ok (.iload_n 3, 1) := by decide +kernel
theorem dX7_madeBy_69 : decode cX7_madeBy 69 = .ok (.ireturn, 1) := by decide +kernel
theorem dX7_hasTold_0 : decode cX7_hasTold 0 = .ok (.aload_n 0, 1) := by decide +kernel
theorem dX7_hasTold_1 : decode cX7_hasTold 1 = .ok (.getfield 140, 3) := by decide +kernel
theorem dX7_hasTold_4 : decode cX7_hasTold 4 = .ok (.iload_n 2, 1) := by decide +kernel
theorem dX7_hasTold_5 : decode cX7_hasTold 5 = .ok (.if_icmp .ne 7, 3) := by decide +kernel
theorem dX7_hasTold_8 : decode cX7_hasTold 8 = .ok (.iconst 1, 1) := by decide +kernel
theorem dX7_hasTold_9 : decode cX7_hasTold 9 = .ok (.goto 4, 3) := by decide +kernel
theorem dX7_hasTold_12 : decode cX7_hasTold 12 = .ok (.iconst 0, 1) := by decide +kernel
theorem dX7_hasTold_13 : decode cX7_hasTold 13 = .ok (.istore_n 3, 1) := by decide +kernel
theorem dX7_hasTold_14 : decode cX7_hasTold 14 = .ok (.iconst 0, 1) := by decide +kernel
theorem dX7_hasTold_15 : decode cX7_hasTold 15 = .ok (.istore 4, 2) := by decide +kernel
theorem dX7_hasTold_17 : decode cX7_hasTold 17 = .ok (.iload 4, 2) := by decide +kernel
theorem dX7_hasTold_19 : decode cX7_hasTold 19 = .ok (.iload_n 2, 1) := by decide +kernel
theorem dX7_hasTold_20 : decode cX7_hasTold 20 = .ok (.if_icmp .ge 38, 3) := by decide +kernel
theorem dX7_hasTold_23 : decode cX7_hasTold 23 = .ok (.iload_n 3, 1) := by decide +kernel
theorem dX7_hasTold_24 : decode cX7_hasTold 24 = .ok (.ifCond .eq 34, 3) := by decide +kernel
theorem dX7_hasTold_27 : decode cX7_hasTold 27 = .ok (.aload_n 0, 1) := by decide +kernel
theorem dX7_hasTold_28 : decode cX7_hasTold 28 = .ok (.getfield 46, 3) := by decide +kernel
theorem dX7_hasTold_31 : decode cX7_hasTold 31 = .ok (.iload 4, 2) := by decide +kernel
theorem dX7_hasTold_33 : decode cX7_hasTold 33 = .ok (.iaload, 1) := by decide +kernel
theorem dX7_hasTold_34 : decode cX7_hasTold 34 = .ok (.aload_n 0, 1) := by decide +kernel
theorem dX7_hasTold_35 : decode cX7_hasTold 35 = .ok (.getfield 16, 3) := by decide +kernel
theorem dX7_hasTold_38 : decode cX7_hasTold 38 = .ok (.iload_n 1, 1) := by decide +kernel
theorem dX7_hasTold_39 : decode cX7_hasTold 39 = .ok (.iload 4, 2) := by decide +kernel
theorem dX7_hasTold_41 : decode cX7_hasTold 41 = .ok (.iadd, 1) := by decide +kernel
theorem dX7_hasTold_42 : decode cX7_hasTold 42 = .ok (.iaload, 1) := by decide +kernel
theorem dX7_hasTold_43 : decode cX7_hasTold 43 = .ok (.if_icmp .ne 7, 3) := by decide +kernel
theorem dX7_hasTold_46 : decode cX7_hasTold 46 = .ok (.iconst 1, 1) := by decide +kernel
theorem dX7_hasTold_47 : decode cX7_hasTold 47 = .ok (.goto 4, 3) := by decide +kernel
theorem dX7_hasTold_50 : decode cX7_hasTold 50 = .ok (.iconst 0, 1) := by decide +kernel
theorem dX7_hasTold_51 : decode cX7_hasTold 51 = .ok (.istore_n 3, 1) := by decide +kernel
theorem dX7_hasTold_52 : decode cX7_hasTold 52 = .ok (.iinc 4 1, 3) := by decide +kernel
theorem dX7_hasTold_55 : decode cX7_hasTold 55 = .ok (.goto (-38), 3) := by decide +kernel
theorem dX7_hasTold_58 : decode cX7_hasTold 58 = .ok (.iload_n 3, 1) := by decide +kernel
theorem dX7_hasTold_59 : decode cX7_hasTold 59 = .ok (.ireturn, 1) := by decide +kernel
theorem dX7_findFar_0 : decode cX7_findFar 0 = .ok (.iconst 0, 1) := by decide +kernel
theorem dX7_findFar_1 : decode cX7_findFar 1 = .ok (.istore_n 3, 1) := by decide +kernel
theorem dX7_findFar_2 : decode cX7_findFar 2 = .ok (.iload_n 3, 1) := by decide +kernel
theorem dX7_findFar_3 : decode cX7_findFar 3 = .ok (.sipush 7737, 3) := by decide +kernel
theorem dX7_findFar_6 : decode cX7_findFar 6 = .ok (.if_icmp .ge 35, 3) := by decide +kernel
theorem dX7_findFar_9 : decode cX7_findFar 9 = .ok (.aload_n 0, 1) := by decide +kernel
theorem dX7_findFar_10 : decode cX7_findFar 10 = .ok (.iload_n 3, 1) := by decide +kernel
theorem dX7_findFar_11 : decode cX7_findFar 11 = .ok (.invokevirtual 165, 3) := by decide +kernel
theorem dX7_findFar_14 : decode cX7_findFar 14 = .ok (.aload_n 0, 1) := by decide +kernel
theorem dX7_findFar_15 : decode cX7_findFar 15 = .ok (.getfield 62, 3) := by decide +kernel
theorem dX7_findFar_18 : decode cX7_findFar 18 = .ok (.iload_n 3, 1) := by decide +kernel
theorem dX7_findFar_19 : decode cX7_findFar 19 = .ok (.aload_n 0, 1) := by decide +kernel
theorem dX7_findFar_20 : decode cX7_findFar 20 = .ok (.iload_n 1, 1) := by decide +kernel
theorem dX7_findFar_21 : decode cX7_findFar 21 = .ok (.iload_n 2, 1) := by decide +kernel
theorem dX7_findFar_22 : decode cX7_findFar 22 = .ok (.invokevirtual 195, 3) := by decide +kernel
theorem dX7_findFar_25 : decode cX7_findFar 25 = .ok (.ifCond .eq 7, 3) := by decide +kernel
theorem dX7_findFar_28 : decode cX7_findFar 28 = .ok (.iconst 0, 1) := by decide +kernel
theorem dX7_findFar_29 : decode cX7_findFar 29 = .ok (.goto 5, 3) := by decide +kernel
theorem dX7_findFar_32 : decode cX7_findFar 32 = .ok (.bipush (-9), 2) := by decide +kernel
theorem dX7_findFar_34 : decode cX7_findFar 34 = .ok (.iastore, 1) := by decide +kernel
theorem dX7_findFar_35 : decode cX7_findFar 35 = .ok (.iinc 3 1, 3) := by decide +kernel
theorem dX7_findFar_38 : decode cX7_findFar 38 = .ok (.goto (-36), 3) := by decide +kernel
theorem dX7_findFar_41 : decode cX7_findFar 41 = .ok (.iconst 1, 1) := by decide +kernel
theorem dX7_findFar_42 : decode cX7_findFar 42 = .ok (.istore_n 3, 1) := by decide +kernel
theorem dX7_findFar_43 : decode cX7_findFar 43 = .ok (.iconst 1, 1) := by decide +kernel
theorem dX7_findFar_44 : decode cX7_findFar 44 = .ok (.istore 4, 2) := by decide +kernel
theorem dX7_findFar_46 : decode cX7_findFar 46 = .ok (.iload_n 3, 1) := by decide +kernel
theorem dX7_findFar_47 : decode cX7_findFar 47 = .ok (.ifCond .eq 99, 3) := by decide +kernel
theorem dX7_findFar_50 : decode cX7_findFar 50 = .ok (.iconst 0, 1) := by decide +kernel
theorem dX7_findFar_51 : decode cX7_findFar 51 = .ok (.istore_n 3, 1) := by decide +kernel
theorem dX7_findFar_52 : decode cX7_findFar 52 = .ok (.iconst 0, 1) := by decide +kernel
theorem dX7_findFar_53 : decode cX7_findFar 53 = .ok (.istore 5, 2) := by decide +kernel
theorem dX7_findFar_55 : decode cX7_findFar 55 = .ok (.iload 5, 2) := by decide +kernel
theorem dX7_findFar_57 : decode cX7_findFar 57 = .ok (.sipush 7737, 3) := by decide +kernel
theorem dX7_findFar_60 : decode cX7_findFar 60 = .ok (.if_icmp .ge 80, 3) := by decide +kernel
theorem dX7_findFar_63 : decode cX7_findFar 63 = .ok (.iconst 0, 1) := by decide +kernel
theorem dX7_findFar_64 : decode cX7_findFar 64 = .ok (.istore 6, 2) := by decide +kernel
theorem dX7_findFar_66 : decode cX7_findFar 66 = .ok (.iload 6, 2) := by decide +kernel
theorem dX7_findFar_68 : decode cX7_findFar 68 = .ok (.aload_n 0, 1) := by decide +kernel
theorem dX7_findFar_69 : decode cX7_findFar 69 = .ok (.invokevirtual 186, 3) := by decide +kernel
theorem dX7_findFar_72 : decode cX7_findFar 72 = .ok (.if_icmp .ge 62, 3) := by decide +kernel
theorem dX7_findFar_75 : decode cX7_findFar 75 = .ok (.aload_n 0, 1) := by decide +kernel
theorem dX7_findFar_76 : decode cX7_findFar 76 = .ok (.getfield 62, 3) := by decide +kernel
theorem dX7_findFar_79 : decode cX7_findFar 79 = .ok (.iload 5, 2) := by decide +kernel
theorem dX7_findFar_81 : decode cX7_findFar 81 = .ok (.iaload, 1) := by decide +kernel
theorem dX7_findFar_82 : decode cX7_findFar 82 = .ok (.bipush (-9), 2) := by decide +kernel
theorem dX7_findFar_84 : decode cX7_findFar 84 = .ok (.if_icmp .ne 50, 3) := by decide +kernel
theorem dX7_findFar_87 : decode cX7_findFar 87 = .ok (.aload_n 0, 1) := by decide +kernel
theorem dX7_findFar_88 : decode cX7_findFar 88 = .ok (.getfield 62, 3) := by decide +kernel
theorem dX7_findFar_91 : decode cX7_findFar 91 = .ok (.aload_n 0, 1) := by decide +kernel
theorem dX7_findFar_92 : decode cX7_findFar 92 = .ok (.getfield 59, 3) := by decide +kernel
theorem dX7_findFar_95 : decode cX7_findFar 95 = .ok (.sipush 7737, 3) := by decide +kernel
theorem dX7_findFar_98 : decode cX7_findFar 98 = .ok (.iload 6, 2) := by decide +kernel
theorem dX7_findFar_100 : decode cX7_findFar 100 = .ok (.imul, 1) := by decide +kernel
theorem dX7_findFar_101 : decode cX7_findFar 101 = .ok (.iload 5, 2) := by decide +kernel
theorem dX7_findFar_103 : decode cX7_findFar 103 = .ok (.iadd, 1) := by decide +kernel
theorem dX7_findFar_104 : decode cX7_findFar 104 = .ok (.iaload, 1) := by decide +kernel
theorem dX7_findFar_105 : decode cX7_findFar 105 = .ok (.iaload, 1) := by decide +kernel
theorem dX7_findFar_106 : decode cX7_findFar 106 = .ok (.istore 7, 2) := by decide +kernel
theorem dX7_findFar_108 : decode cX7_findFar 108 = .ok (.iload 7, 2) := by decide +kernel
theorem dX7_findFar_110 : decode cX7_findFar 110 = .ok (.iload 4, 2) := by decide +kernel
theorem dX7_findFar_112 : decode cX7_findFar 112 = .ok (.iconst 1, 1) := by decide +kernel
theorem dX7_findFar_113 : decode cX7_findFar 113 = .ok (.isub, 1) := by decide +kernel
theorem dX7_findFar_114 : decode cX7_findFar 114 = .ok (.if_icmp .ne 14, 3) := by decide +kernel
theorem dX7_findFar_117 : decode cX7_findFar 117 = .ok (.aload_n 0, 1) := by decide +kernel
theorem dX7_findFar_118 : decode cX7_findFar 118 = .ok (.getfield 62, 3) := by decide +kernel
theorem dX7_findFar_121 : decode cX7_findFar 121 = .ok (.iload 5, 2) := by decide +kernel
theorem dX7_findFar_123 : decode cX7_findFar 123 = .ok (.iload 4, 2) := by decide +kernel
theorem dX7_findFar_125 : decode cX7_findFar 125 = .ok (.iastore, 1) := by decide +kernel
theorem dX7_findFar_126 : decode cX7_findFar 126 = .ok (.iconst 1, 1) := by decide +kernel
theorem dX7_findFar_127 : decode cX7_findFar 127 = .ok (.istore_n 3, 1) := by decide +kernel
theorem dX7_findFar_128 : decode cX7_findFar 128 = .ok (.iinc 6 1, 3) := by decide +kernel
theorem dX7_findFar_131 : decode cX7_findFar 131 = .ok (.goto (-65), 3) := by decide +kernel
theorem dX7_findFar_134 : decode cX7_findFar 134 = .ok (.iinc 5 1, 3) := by decide +kernel
theorem dX7_findFar_137 : decode cX7_findFar 137 = .ok (.goto (-82), 3) := by decide +kernel
theorem dX7_findFar_140 : decode cX7_findFar 140 = .ok (.iinc 4 1, 3) := by decide +kernel
theorem dX7_findFar_143 : decode cX7_findFar 143 = .ok (.goto (-97), 3) := by decide +kernel
theorem dX7_findFar_146 : decode cX7_findFar 146 = .ok (.return_, 1) := by decide +kernel
theorem dX7_fewest_0 : decode cX7_fewest 0 = .ok (.aload_n 0, 1) := by decide +kernel
theorem dX7_fewest_1 : decode cX7_fewest 1 = .ok (.iconst 0, 1) := by decide +kernel
theorem dX7_fewest_2 : decode cX7_fewest 2 = .ok (.putfield 74, 3) := by decide +kernel
theorem dX7_fewest_5 : decode cX7_fewest 5 = .ok (.iload_n 1, 1) := by decide +kernel
theorem dX7_fewest_6 : decode cX7_fewest 6 = .ok (.invokestatic 87, 3) := by decide +kernel
theorem dX7_fewest_9 : decode cX7_fewest 9 = .ok (.ifCond .ne 5, 3) := by decide +kernel
theorem dX7_fewest_12 : decode cX7_fewest 12 = .ok (.iconst (-1), 1) := by decide +kernel
theorem dX7_fewest_13 : decode cX7_fewest 13 = .ok (.ireturn, 1) := by decide +kernel
theorem dX7_fewest_14 : decode cX7_fewest 14 = .ok (.iload_n 2, 1) := by decide +kernel
theorem dX7_fewest_15 : decode cX7_fewest 15 = .ok (.invokestatic 91, 3) := by decide +kernel
theorem dX7_fewest_18 : decode cX7_fewest 18 = .ok (.ifCond .eq 24, 3) := by decide +kernel
theorem dX7_fewest_21 : decode cX7_fewest 21 = .ok (.iload 4, 2) := by decide +kernel
theorem dX7_fewest_23 : decode cX7_fewest 23 = .ok (.iconst 0, 1) := by decide +kernel
theorem dX7_fewest_24 : decode cX7_fewest 24 = .ok (.iconst 5, 1) := by decide +kernel
theorem dX7_fewest_25 : decode cX7_fewest 25 = .ok (.invokestatic 80, 3) := by decide +kernel
theorem dX7_fewest_28 : decode cX7_fewest 28 = .ok (.ifCond .eq 14, 3) := by decide +kernel
theorem dX7_fewest_31 : decode cX7_fewest 31 = .ok (.iload 5, 2) := by decide +kernel
theorem dX7_fewest_33 : decode cX7_fewest 33 = .ok (.iconst (-1), 1) := by decide +kernel
theorem dX7_fewest_34 : decode cX7_fewest 34 = .ok (.bipush 20, 2) := by decide +kernel
theorem dX7_fewest_36 : decode cX7_fewest 36 = .ok (.invokestatic 80, 3) := by decide +kernel
theorem dX7_fewest_39 : decode cX7_fewest 39 = .ok (.ifCond .ne 6, 3) := by decide +kernel
theorem dX7_fewest_42 : decode cX7_fewest 42 = .ok (.bipush (-2), 2) := by decide +kernel
theorem dX7_fewest_44 : decode cX7_fewest 44 = .ok (.ireturn, 1) := by decide +kernel
theorem dX7_fewest_45 : decode cX7_fewest 45 = .ok (.aload_n 0, 1) := by decide +kernel
theorem dX7_fewest_46 : decode cX7_fewest 46 = .ok (.iload_n 1, 1) := by decide +kernel
theorem dX7_fewest_47 : decode cX7_fewest 47 = .ok (.iload_n 2, 1) := by decide +kernel
theorem dX7_fewest_48 : decode cX7_fewest 48 = .ok (.iload_n 3, 1) := by decide +kernel
theorem dX7_fewest_49 : decode cX7_fewest 49 = .ok (.iload 4, 2) := by decide +kernel
theorem dX7_fewest_51 : decode cX7_fewest 51 = .ok (.invokevirtual 94, 3) := by decide +kernel
theorem dX7_fewest_54 : decode cX7_fewest 54 = .ok (.istore 6, 2) := by decide +kernel
theorem dX7_fewest_56 : decode cX7_fewest 56 = .ok (.iload 6, 2) := by decide +kernel
theorem dX7_fewest_58 : decode cX7_fewest 58 = .ok (.ifCond .eq 10, 3) := by decide +kernel
theorem dX7_fewest_61 : decode cX7_fewest 61 = .ok (.aload_n 0, 1) := by decide +kernel
theorem dX7_fewest_62 : decode cX7_fewest 62 = .ok (.iload 6, 2) := by decide +kernel
theorem dX7_fewest_64 : decode cX7_fewest 64 = .ok (.invokevirtual 98, 3) := by decide +kernel
theorem dX7_fewest_67 : decode cX7_fewest 67 = .ok (.ireturn, 1) := by decide +kernel
theorem dX7_fewest_68 : decode cX7_fewest 68 = .ok (.bipush 60, 2) := by decide +kernel
theorem dX7_fewest_70 : decode cX7_fewest 70 = .ok (.iload_n 1, 1) := by decide +kernel
theorem dX7_fewest_71 : decode cX7_fewest 71 = .ok (.imul, 1) := by decide +kernel
theorem dX7_fewest_72 : decode cX7_fewest 72 = .ok (.iload_n 3, 1) := by decide +kernel
theorem dX7_fewest_73 : decode cX7_fewest 73 = .ok (.iadd, 1) := by decide +kernel
theorem dX7_fewest_74 : decode cX7_fewest 74 = .ok (.istore 7, 2) := by decide +kernel
theorem dX7_fewest_76 : decode cX7_fewest 76 = .ok (.iconst 0, 1) := by decide +kernel
theorem dX7_fewest_77 : decode cX7_fewest 77 = .ok (.istore 8, 2) := by decide +kernel
theorem dX7_fewest_79 : decode cX7_fewest 79 = .ok (.iload 8, 2) := by decide +kernel
theorem dX7_fewest_81 : decode cX7_fewest 81 = .ok (.iload 4, 2) := by decide +kernel
theorem dX7_fewest_83 : decode cX7_fewest 83 = .ok (.if_icmp .ge 30, 3) := by decide +kernel
theorem dX7_fewest_86 : decode cX7_fewest 86 = .ok (.aload_n 0, 1) := by decide +kernel
theorem dX7_fewest_87 : decode cX7_fewest 87 = .ok (.getfield 16, 3) := by decide +kernel
theorem dX7_fewest_90 : decode cX7_fewest 90 = .ok (.iload 7, 2) := by decide +kernel
theorem dX7_fewest_92 : decode cX7_fewest 92 = .ok (.iload 8, 2) := by decide +kernel
theorem dX7_fewest_94 : decode cX7_fewest 94 = .ok (.iadd, 1) := by decide +kernel
theorem dX7_fewest_95 : decode cX7_fewest 95 = .ok (.iaload, 1) := by decide +kernel
theorem dX7_fewest_96 : decode cX7_fewest 96 = .ok (.iconst 0, 1) := by decide +kernel
theorem dX7_fewest_97 : decode cX7_fewest 97 = .ok (.iconst 3, 1) := by decide +kernel
theorem dX7_fewest_98 : decode cX7_fewest 98 = .ok (.invokestatic 80, 3) := by decide +kernel
theorem dX7_fewest_101 : decode cX7_fewest 101 = .ok (.ifCond .ne 6, 3) := by decide +kernel
theorem dX7_fewest_104 : decode cX7_fewest 104 = .ok (.bipush (-2), 2) := by decide +kernel
theorem dX7_fewest_106 : decode cX7_fewest 106 = .ok (.ireturn, 1) := by decide +kernel
theorem dX7_fewest_107 : decode cX7_fewest 107 = .ok (.iinc 8 1, 3) := by decide +kernel
theorem dX7_fewest_110 : decode cX7_fewest 110 = .ok (.goto (-31), 3) := by decide +kernel
theorem dX7_fewest_113 : decode cX7_fewest 113 = .ok (.aload_n 0, 1) := by decide +kernel
theorem dX7_fewest_114 : decode cX7_fewest 114 = .ok (.invokevirtual 198, 3) := by decide +kernel
theorem dX7_fewest_117 : decode cX7_fewest 117 = .ok (.aload_n 0, 1) := by decide +kernel
theorem dX7_fewest_118 : decode cX7_fewest 118 = .ok (.iload 7, 2) := by decide +kernel
theorem dX7_fewest_120 : decode cX7_fewest 120 = .ok (.iload 4, 2) := by decide +kernel
theorem dX7_fewest_122 : decode cX7_fewest 122 = .ok (.invokevirtual 201, 3) := by decide +kernel
theorem dX7_fewest_125 : decode cX7_fewest 125 = .ok (.iload 5, 2) := by decide +kernel
theorem dX7_fewest_127 : decode cX7_fewest 127 = .ok (.iconst (-1), 1) := by decide +kernel
theorem dX7_fewest_128 : decode cX7_fewest 128 = .ok (.if_icmp .ne 13, 3) := by decide +kernel
theorem dX7_fewest_131 : decode cX7_fewest 131 = .ok (.aload_n 0, 1) := by decide +kernel
theorem dX7_fewest_132 : decode cX7_fewest 132 = .ok (.getfield 62, 3) := by decide +kernel
theorem dX7_fewest_135 : decode cX7_fewest 135 = .ok (.aload_n 0, 1) := by decide +kernel
theorem dX7_fewest_136 : decode cX7_fewest 136 = .ok (.getfield 111, 3) := by decide +kernel
theorem dX7_fewest_139 : decode cX7_fewest 139 = .ok (.iaload, 1) := by decide +kernel
theorem dX7_fewest_140 : decode cX7_fewest 140 = .ok (.ireturn, 1) := by decide +kernel
theorem dX7_fewest_141 : decode cX7_fewest 141 = .ok (.iload 5, 2) := by decide +kernel
theorem dX7_fewest_143 : decode cX7_fewest 143 = .ok (.aload_n 0, 1) := by decide +kernel
theorem dX7_fewest_144 : decode cX7_fewest 144 = .ok (.getfield 62, 3) := by decide +kernel
theorem dX7_fewest_147 : decode cX7_fewest 147 = .ok (.aload_n 0, 1) := by decide +kernel
theorem dX7_fewest_148 : decode cX7_fewest 148 = .ok (.getfield 111, 3) := by decide +kernel
theorem dX7_fewest_151 : decode cX7_fewest 151 = .ok (.iaload, 1) := by decide +kernel
theorem dX7_fewest_152 : decode cX7_fewest 152 = .ok (.if_icmp .lt 6, 3) := by decide +kernel
theorem dX7_fewest_155 : decode cX7_fewest 155 = .ok (.bipush (-9), 2) := by decide +kernel
theorem dX7_fewest_157 : decode cX7_fewest 157 = .ok (.ireturn, 1) := by decide +kernel
theorem dX7_fewest_158 : decode cX7_fewest 158 = .ok (.aload_n 0, 1) := by decide +kernel
theorem dX7_fewest_159 : decode cX7_fewest 159 = .ok (.getfield 111, 3) := by decide +kernel
theorem dX7_fewest_162 : decode cX7_fewest 162 = .ok (.istore 8, 2) := by decide +kernel
theorem dX7_fewest_164 : decode cX7_fewest 164 = .ok (.iconst 0, 1) := by decide +kernel
theorem dX7_fewest_165 : decode cX7_fewest 165 = .ok (.istore 9, 2) := by decide +kernel
theorem dX7_fewest_167 : decode cX7_fewest 167 = .ok (.iconst 0, 1) := by decide +kernel
theorem dX7_fewest_168 : decode cX7_fewest 168 = .ok (.istore 10, 2) := by decide +kernel
theorem dX7_fewest_170 : decode cX7_fewest 170 = .ok (.iload 10, 2) := by decide +kernel
theorem dX7_fewest_172 : decode cX7_fewest 172 = .ok (.iload 5, 2) := by decide +kernel
theorem dX7_fewest_174 : decode cX7_fewest 174 = .ok (.if_icmp .gt 65, 3) := by decide +kernel
theorem dX7_fewest_177 : decode cX7_fewest 177 = .ok (.iconst 0, 1) := by decide +kernel
theorem dX7_fewest_178 : decode cX7_fewest 178 = .ok (.istore 9, 2) := by decide +kernel
theorem dX7_fewest_180 : decode cX7_fewest 180 = .ok (.aload_n 0, 1) := by decide +kernel
theorem dX7_fewest_181 : decode cX7_fewest 181 = .ok (.getfield 62, 3) := by decide +kernel
theorem dX7_fewest_184 : decode cX7_fewest 184 = .ok (.aload_n 0, 1) := by decide +kernel
theorem dX7_fewest_185 : decode cX7_fewest 185 = .ok (.getfield 59, 3) := by decide +kernel
theorem dX7_fewest_188 : decode cX7_fewest 188 = .ok (.sipush 7737, 3) := by decide +kernel
theorem dX7_fewest_191 : decode cX7_fewest 191 = .ok (.iload 9, 2) := by decide +kernel
theorem dX7_fewest_193 : decode cX7_fewest 193 = .ok (.imul, 1) := by decide +kernel
theorem dX7_fewest_194 : decode cX7_fewest 194 = .ok (.iload 8, 2) := by decide +kernel
theorem dX7_fewest_196 : decode cX7_fewest 196 = .ok (.iadd, 1) := by decide +kernel
theorem dX7_fewest_197 : decode cX7_fewest 197 = .ok (.iaload, 1) := by decide +kernel
theorem dX7_fewest_198 : decode cX7_fewest 198 = .ok (.iaload, 1) := by decide +kernel
theorem dX7_fewest_199 : decode cX7_fewest 199 = .ok (.aload_n 0, 1) := by decide +kernel
theorem dX7_fewest_200 : decode cX7_fewest 200 = .ok (.getfield 62, 3) := by decide +kernel
theorem dX7_fewest_203 : decode cX7_fewest 203 = .ok (.iload 8, 2) := by decide +kernel
theorem dX7_fewest_205 : decode cX7_fewest 205 = .ok (.iaload, 1) := by decide +kernel
theorem dX7_fewest_206 : decode cX7_fewest 206 = .ok (.iconst 1, 1) := by decide +kernel
theorem dX7_fewest_207 : decode cX7_fewest 207 = .ok (.isub, 1) := by decide +kernel
theorem dX7_fewest_208 : decode cX7_fewest 208 = .ok (.if_icmp .eq 9, 3) := by decide +kernel
theorem dX7_fewest_211 : decode cX7_fewest 211 = .ok (.iinc 9 1, 3) := by decide +kernel
theorem dX7_fewest_214 : decode cX7_fewest 214 = .ok (.goto (-34), 3) := by decide +kernel
theorem dX7_fewest_217 : decode cX7_fewest 217 = .ok (.aload_n 0, 1) := by decide +kernel
theorem dX7_fewest_218 : decode cX7_fewest 218 = .ok (.getfield 59, 3) := by decide +kernel
theorem dX7_fewest_221 : decode cX7_fewest 221 = .ok (.sipush 7737, 3) := by decide +kernel
theorem dX7_fewest_224 : decode cX7_fewest 224 = .ok (.iload 9, 2) := by decide +kernel
theorem dX7_fewest_226 : decode cX7_fewest 226 = .ok (.imul, 1) := by decide +kernel
theorem dX7_fewest_227 : decode cX7_fewest 227 = .ok (.iload 8, 2) := by decide +kernel
theorem dX7_fewest_229 : decode cX7_fewest 229 = .ok (.iadd, 1) := by decide +kernel
theorem dX7_fewest_230 : decode cX7_fewest 230 = .ok (.iaload, 1) := by decide +kernel
theorem dX7_fewest_231 : decode cX7_fewest 231 = .ok (.istore 8, 2) := by decide +kernel
theorem dX7_fewest_233 : decode cX7_fewest 233 = .ok (.iinc 10 1, 3) := by decide +kernel
theorem dX7_fewest_236 : decode cX7_fewest 236 = .ok (.goto (-66), 3) := by decide +kernel
theorem dX7_fewest_239 : decode cX7_fewest 239 = .ok (.iload 9, 2) := by decide +kernel
theorem dX7_fewest_241 : decode cX7_fewest 241 = .ok (.ireturn, 1) := by decide +kernel
theorem dX7_again_0 : decode cX7_again 0 = .ok (.aload_n 0, 1) := by decide +kernel
theorem dX7_again_1 : decode cX7_again 1 = .ok (.iload_n 1, 1) := by decide +kernel
theorem dX7_again_2 : decode cX7_again 2 = .ok (.invokevirtual 134, 3) := by decide +kernel
theorem dX7_again_5 : decode cX7_again 5 = .ok (.ifCond .ne 5, 3) := by decide +kernel
theorem dX7_again_8 : decode cX7_again 8 = .ok (.iconst (-1), 1) := by decide +kernel
theorem dX7_again_9 : decode cX7_again 9 = .ok (.ireturn, 1) := by decide +kernel
theorem dX7_again_10 : decode cX7_again 10 = .ok (.iload_n 2, 1) := by decide +kernel
theorem dX7_again_11 : decode cX7_again 11 = .ok (.iconst 0, 1) := by decide +kernel
theorem dX7_again_12 : decode cX7_again 12 = .ok (.iconst 1, 1) := by decide +kernel
theorem dX7_again_13 : decode cX7_again 13 = .ok (.invokestatic 80, 3) := by decide +kernel
theorem dX7_again_16 : decode cX7_again 16 = .ok (.ifCond .ne 6, 3) := by decide +kernel
theorem dX7_again_19 : decode cX7_again 19 = .ok (.bipush (-2), 2) := by decide +kernel
theorem dX7_again_21 : decode cX7_again 21 = .ok (.ireturn, 1) := by decide +kernel
theorem dX7_again_22 : decode cX7_again 22 = .ok (.aload_n 0, 1) := by decide +kernel
theorem dX7_again_23 : decode cX7_again 23 = .ok (.invokevirtual 198, 3) := by decide +kernel
theorem dX7_again_26 : decode cX7_again 26 = .ok (.iconst 0, 1) := by decide +kernel
theorem dX7_again_27 : decode cX7_again 27 = .ok (.istore_n 3, 1) := by decide +kernel
theorem dX7_again_28 : decode cX7_again 28 = .ok (.iload_n 3, 1) := by decide +kernel
theorem dX7_again_29 : decode cX7_again 29 = .ok (.sipush 7737, 3) := by decide +kernel
theorem dX7_again_32 : decode cX7_again 32 = .ok (.if_icmp .ge 17, 3) := by decide +kernel
theorem dX7_again_35 : decode cX7_again 35 = .ok (.aload_n 0, 1) := by decide +kernel
theorem dX7_again_36 : decode cX7_again 36 = .ok (.getfield 65, 3) := by decide +kernel
theorem dX7_again_39 : decode cX7_again 39 = .ok (.iload_n 3, 1) := by decide +kernel
theorem dX7_again_40 : decode cX7_again 40 = .ok (.bipush (-9), 2) := by decide +kernel
theorem dX7_again_42 : decode cX7_again 42 = .ok (.iastore, 1) := by decide +kernel
theorem dX7_again_43 : decode cX7_again 43 = .ok (.iinc 3 1, 3) := by decide +kernel
theorem dX7_again_46 : decode cX7_again 46 = .ok (.goto (-18), 3) := by decide +kernel
theorem dX7_again_49 : decode cX7_again 49 = .ok (.aload_n 0, 1) := by decide +kernel
theorem dX7_again_50 : decode cX7_again 50 = .ok (.getfield 111, 3) := by decide +kernel
theorem dX7_again_53 : decode cX7_again 53 = .ok (.istore_n 3, 1) := by decide +kernel
theorem dX7_again_54 : decode cX7_again 54 = .ok (.iconst 0, 1) := by decide +kernel
theorem dX7_again_55 : decode cX7_again 55 = .ok (.istore 4, 2) := by decide +kernel
theorem dX7_again_57 : decode cX7_again 57 = .ok (.aload_n 0, 1) := by decide +kernel
theorem dX7_again_58 : decode cX7_again 58 = .ok (.getfield 65, 3) := by decide +kernel
theorem dX7_again_61 : decode cX7_again 61 = .ok (.iload_n 3, 1) := by decide +kernel
theorem dX7_again_62 : decode cX7_again 62 = .ok (.iaload, 1) := by decide +kernel
theorem dX7_again_63 : decode cX7_again 63 = .ok (.bipush (-9), 2) := by decide +kernel
theorem dX7_again_65 : decode cX7_again 65 = .ok (.if_icmp .ne 33, 3) := by decide +kernel
theorem dX7_again_68 : decode cX7_again 68 = .ok (.aload_n 0, 1) := by decide +kernel
theorem dX7_again_69 : decode cX7_again 69 = .ok (.getfield 65, 3) := by decide +kernel
theorem dX7_again_72 : decode cX7_again 72 = .ok (.iload_n 3, 1) := by decide +kernel
theorem dX7_again_73 : decode cX7_again 73 = .ok (.iload 4, 2) := by decide +kernel
theorem dX7_again_75 : decode cX7_again 75 = .ok (.iastore, 1) := by decide +kernel
theorem dX7_again_76 : decode cX7_again 76 = .ok (.iinc 4 1, 3) := by decide +kernel
theorem dX7_again_79 : decode cX7_again 79 = .ok (.aload_n 0, 1) := by decide +kernel
theorem dX7_again_80 : decode cX7_again 80 = .ok (.getfield 59, 3) := by decide +kernel
theorem dX7_again_83 : decode cX7_again 83 = .ok (.sipush 7737, 3) := by decide +kernel
theorem dX7_again_86 : decode cX7_again 86 = .ok (.bipush 8, 2) := by decide +kernel
theorem dX7_again_88 : decode cX7_again 88 = .ok (.iload_n 1, 1) := by decide +kernel
theorem dX7_again_89 : decode cX7_again 89 = .ok (.iadd, 1) := by decide +kernel
theorem dX7_again_90 : decode cX7_again 90 = .ok (.imul, 1) := by decide +kernel
theorem dX7_again_91 : decode cX7_again 91 = .ok (.iload_n 3, 1) := by decide +kernel
theorem dX7_again_92 : decode cX7_again 92 = .ok (.iadd, 1) := by decide +kernel
theorem dX7_again_93 : decode cX7_again 93 = .ok (.iaload, 1) := by decide +kernel
theorem dX7_again_94 : decode cX7_again 94 = .ok (.istore_n 3, 1) := by decide +kernel
theorem dX7_again_95 : decode cX7_again 95 = .ok (.goto (-38), 3) := by decide +kernel
theorem dX7_again_98 : decode cX7_again 98 = .ok (.iload_n 2, 1) := by decide +kernel
theorem dX7_again_99 : decode cX7_again 99 = .ok (.ifCond .ne 12, 3) := by decide +kernel
theorem dX7_again_102 : decode cX7_again 102 = .ok (.aload_n 0, 1) := by decide +kernel
theorem dX7_again_103 : decode cX7_again 103 = .ok (.getfield 65, 3) := by decide +kernel
theorem dX7_again_106 : decode cX7_again 106 = .ok (.iload_n 3, 1) := by decide +kernel
theorem dX7_again_107 : decode cX7_again 107 = .ok (.iaload, 1) := by decide +kernel
theorem dX7_again_108 : decode cX7_again 108 = .ok (.goto 12, 3) := by decide +kernel
theorem dX7_again_111 : decode cX7_again 111 = .ok (.iload 4, 2) := by decide +kernel
theorem dX7_again_113 : decode cX7_again 113 = .ok (.aload_n 0, 1) := by decide +kernel
theorem dX7_again_114 : decode cX7_again 114 = .ok (.getfield 65, 3) := by decide +kernel
theorem dX7_again_117 : decode cX7_again 117 = .ok (.iload_n 3, 1) := by decide +kernel
theorem dX7_again_118 : decode cX7_again 118 = .ok (.iaload, 1) := by decide +kernel
theorem dX7_again_119 : decode cX7_again 119 = .ok (.isub, 1) := by decide +kernel
theorem dX7_again_120 : decode cX7_again 120 = .ok (.ireturn, 1) := by decide +kernel
theorem dX7_like_0 : decode cX7_like 0 = .ok (.aload_n 0, 1) := by decide +kernel
theorem dX7_like_1 : decode cX7_like 1 = .ok (.iload_n 1, 1) := by decide +kernel
theorem dX7_like_2 : decode cX7_like 2 = .ok (.invokevirtual 204, 3) := by decide +kernel
theorem dX7_like_5 : decode cX7_like 5 = .ok (.ifCond .eq 11, 3) := by decide +kernel
theorem dX7_like_8 : decode cX7_like 8 = .ok (.aload_n 0, 1) := by decide +kernel
theorem dX7_like_9 : decode cX7_like 9 = .ok (.iload_n 2, 1) := by decide +kernel
theorem dX7_like_10 : decode cX7_like 10 = .ok (.invokevirtual 204, 3) := by decide +kernel
theorem dX7_like_13 : decode cX7_like 13 = .ok (.ifCond .ne 5, 3) := by decide +kernel
theorem dX7_like_16 : decode cX7_like 16 = .ok (.iconst (-1), 1) := by decide +kernel
theorem dX7_like_17 : decode cX7_like 17 = .ok (.ireturn, 1) := by decide +kernel
theorem dX7_like_18 : decode cX7_like 18 = .ok (.aload_n 0, 1) := by decide +kernel
theorem dX7_like_19 : decode cX7_like 19 = .ok (.invokevirtual 198, 3) := by decide +kernel
theorem dX7_like_22 : decode cX7_like 22 = .ok (.iconst 0, 1) := by decide +kernel
theorem dX7_like_23 : decode cX7_like 23 = .ok (.istore_n 3, 1) := by decide +kernel
theorem dX7_like_24 : decode cX7_like 24 = .ok (.iconst 0, 1) := by decide +kernel
theorem dX7_like_25 : decode cX7_like 25 = .ok (.istore 4, 2) := by decide +kernel
theorem dX7_like_27 : decode cX7_like 27 = .ok (.iload 4, 2) := by decide +kernel
theorem dX7_like_29 : decode cX7_like 29 = .ok (.sipush 7737, 3) := by decide +kernel
theorem dX7_like_32 : decode cX7_like 32 = .ok (.if_icmp .ge 46, 3) := by decide +kernel
theorem dX7_like_35 : decode cX7_like 35 = .ok (.iload_n 3, 1) := by decide +kernel
theorem dX7_like_36 : decode cX7_like 36 = .ok (.aload_n 0, 1) := by decide +kernel
theorem dX7_like_37 : decode cX7_like 37 = .ok (.getfield 59, 3) := by decide +kernel
theorem dX7_like_40 : decode cX7_like 40 = .ok (.sipush 7737, 3) := by decide +kernel
theorem dX7_like_43 : decode cX7_like 43 = .ok (.iload_n 1, 1) := by decide +kernel
theorem dX7_like_44 : decode cX7_like 44 = .ok (.imul, 1) := by decide +kernel
theorem dX7_like_45 : decode cX7_like 45 = .ok (.iload 4, 2) := by decide +kernel
theorem dX7_like_47 : decode cX7_like 47 = .ok (.iadd, 1) := by decide +kernel
theorem dX7_like_48 : decode cX7_like 48 = .ok (.iaload, 1) := by decide +kernel
theorem dX7_like_49 : decode cX7_like 49 = .ok (.aload_n 0, 1) := by decide +kernel
theorem dX7_like_50 : decode cX7_like 50 = .ok (.getfield 59, 3) := by decide +kernel
theorem dX7_like_53 : decode cX7_like 53 = .ok (.sipush 7737, 3) := by decide +kernel
theorem dX7_like_56 : decode cX7_like 56 = .ok (.iload_n 2, 1) := by decide +kernel
theorem dX7_like_57 : decode cX7_like 57 = .ok (.imul, 1) := by decide +kernel
theorem dX7_like_58 : decode cX7_like 58 = .ok (.iload 4, 2) := by decide +kernel
theorem dX7_like_60 : decode cX7_like 60 = .ok (.iadd, 1) := by decide +kernel
theorem dX7_like_61 : decode cX7_like 61 = .ok (.iaload, 1) := by decide +kernel
theorem dX7_like_62 : decode cX7_like 62 = .ok (.if_icmp .ne 7, 3) := by decide +kernel
theorem dX7_like_65 : decode cX7_like 65 = .ok (.iconst 1, 1) := by decide +kernel
theorem dX7_like_66 : decode cX7_like 66 = .ok (.goto 4, 3) := by decide +kernel
theorem dX7_like_69 : decode cX7_like 69 = .ok (.iconst 0, 1) := by decide +kernel
theorem dX7_like_70 : decode cX7_like 70 = .ok (.iadd, 1) := by decide +kernel
theorem dX7_like_71 : decode cX7_like 71 = .ok (.istore_n 3, 1) := by decide +kernel
theorem dX7_like_72 : decode cX7_like 72 = .ok (.iinc 4 1, 3) := by decide +kernel
theorem dX7_like_75 : decode cX7_like 75 = .ok (.goto (-48), 3) := by decide +kernel
theorem dX7_like_78 : decode cX7_like 78 = .ok (.iload_n 3, 1) := by decide +kernel
theorem dX7_like_79 : decode cX7_like 79 = .ok (.ireturn, 1) := by decide +kernel
theorem dX7_still_0 : decode cX7_still 0 = .ok (.aload_n 0, 1) := by decide +kernel
theorem dX7_still_1 : decode cX7_still 1 = .ok (.iload_n 1, 1) := by decide +kernel
theorem dX7_still_2 : decode cX7_still 2 = .ok (.invokevirtual 204, 3) := by decide +kernel
theorem dX7_still_5 : decode cX7_still 5 = .ok (.ifCond .ne 5, 3) := by decide +kernel
theorem dX7_still_8 : decode cX7_still 8 = .ok (.iconst (-1), 1) := by decide +kernel
theorem dX7_still_9 : decode cX7_still 9 = .ok (.ireturn, 1) := by decide +kernel
theorem dX7_still_10 : decode cX7_still 10 = .ok (.aload_n 0, 1) := by decide +kernel
theorem dX7_still_11 : decode cX7_still 11 = .ok (.invokevirtual 198, 3) := by decide +kernel
theorem dX7_still_14 : decode cX7_still 14 = .ok (.iconst 0, 1) := by decide +kernel
theorem dX7_still_15 : decode cX7_still 15 = .ok (.istore_n 2, 1) := by decide +kernel
theorem dX7_still_16 : decode cX7_still 16 = .ok (.iconst 0, 1) := by decide +kernel
theorem dX7_still_17 : decode cX7_still 17 = .ok (.istore_n 3, 1) := by decide +kernel
theorem dX7_still_18 : decode cX7_still 18 = .ok (.iload_n 3, 1) := by decide +kernel
theorem dX7_still_19 : decode cX7_still 19 = .ok (.sipush 7737, 3) := by decide +kernel
theorem dX7_still_22 : decode cX7_still 22 = .ok (.if_icmp .ge 33, 3) := by decide +kernel
theorem dX7_still_25 : decode cX7_still 25 = .ok (.iload_n 2, 1) := by decide +kernel
theorem dX7_still_26 : decode cX7_still 26 = .ok (.aload_n 0, 1) := by decide +kernel
theorem dX7_still_27 : decode cX7_still 27 = .ok (.getfield 59, 3) := by decide +kernel
theorem dX7_still_30 : decode cX7_still 30 = .ok (.sipush 7737, 3) := by decide +kernel
theorem dX7_still_33 : decode cX7_still 33 = .ok (.iload_n 1, 1) := by decide +kernel
theorem dX7_still_34 : decode cX7_still 34 = .ok (.imul, 1) := by decide +kernel
theorem dX7_still_35 : decode cX7_still 35 = .ok (.iload_n 3, 1) := by decide +kernel
theorem dX7_still_36 : decode cX7_still 36 = .ok (.iadd, 1) := by decide +kernel
theorem dX7_still_37 : decode cX7_still 37 = .ok (.iaload, 1) := by decide +kernel
theorem dX7_still_38 : decode cX7_still 38 = .ok (.iload_n 3, 1) := by decide +kernel
theorem dX7_still_39 : decode cX7_still 39 = .ok (.if_icmp .ne 7, 3) := by decide +kernel
theorem dX7_still_42 : decode cX7_still 42 = .ok (.iconst 1, 1) := by decide +kernel
theorem dX7_still_43 : decode cX7_still 43 = .ok (.goto 4, 3) := by decide +kernel
theorem dX7_still_46 : decode cX7_still 46 = .ok (.iconst 0, 1) := by decide +kernel
theorem dX7_still_47 : decode cX7_still 47 = .ok (.iadd, 1) := by decide +kernel
theorem dX7_still_48 : decode cX7_still 48 = .ok (.istore_n 2, 1) := by decide +kernel
theorem dX7_still_49 : decode cX7_still 49 = .ok (.iinc 3 1, 3) := by decide +kernel
theorem dX7_still_52 : decode cX7_still 52 = .ok (.goto (-34), 3) := by decide +kernel
theorem dX7_still_55 : decode cX7_still 55 = .ok (.iload_n 2, 1) := by decide +kernel
theorem dX7_still_56 : decode cX7_still 56 = .ok (.ireturn, 1) := by decide +kernel
theorem dX7_come_0 : decode cX7_come 0 = .ok (.aload_n 0, 1) := by decide +kernel
theorem dX7_come_1 : decode cX7_come 1 = .ok (.invokevirtual 198, 3) := by decide +kernel
theorem dX7_come_4 : decode cX7_come 4 = .ok (.iconst 0, 1) := by decide +kernel
theorem dX7_come_5 : decode cX7_come 5 = .ok (.istore_n 1, 1) := by decide +kernel
theorem dX7_come_6 : decode cX7_come 6 = .ok (.iload_n 1, 1) := by decide +kernel
theorem dX7_come_7 : decode cX7_come 7 = .ok (.sipush 7737, 3) := by decide +kernel
theorem dX7_come_10 : decode cX7_come 10 = .ok (.if_icmp .ge 16, 3) := by decide +kernel
theorem dX7_come_13 : decode cX7_come 13 = .ok (.aload_n 0, 1) := by decide +kernel
theorem dX7_come_14 : decode cX7_come 14 = .ok (.getfield 65, 3) := by decide +kernel
theorem dX7_come_17 : decode cX7_come 17 = .ok (.iload_n 1, 1) := by decide +kernel
theorem dX7_come_18 : decode cX7_come 18 = .ok (.iconst 0, 1) := by decide +kernel
theorem dX7_come_19 : decode cX7_come 19 = .ok (.iastore, 1) := by decide +kernel
theorem dX7_come_20 : decode cX7_come 20 = .ok (.iinc 1 1, 3) := by decide +kernel
theorem dX7_come_23 : decode cX7_come 23 = .ok (.goto (-17), 3) := by decide +kernel
theorem dX7_come_26 : decode cX7_come 26 = .ok (.aload_n 0, 1) := by decide +kernel
theorem dX7_come_27 : decode cX7_come 27 = .ok (.getfield 65, 3) := by decide +kernel
theorem dX7_come_30 : decode cX7_come 30 = .ok (.aload_n 0, 1) := by decide +kernel
theorem dX7_come_31 : decode cX7_come 31 = .ok (.getfield 111, 3) := by decide +kernel
theorem dX7_come_34 : decode cX7_come 34 = .ok (.iconst 1, 1) := by decide +kernel
theorem dX7_come_35 : decode cX7_come 35 = .ok (.iastore, 1) := by decide +kernel
theorem dX7_come_36 : decode cX7_come 36 = .ok (.aload_n 0, 1) := by decide +kernel
theorem dX7_come_37 : decode cX7_come 37 = .ok (.getfield 62, 3) := by decide +kernel
theorem dX7_come_40 : decode cX7_come 40 = .ok (.iconst 0, 1) := by decide +kernel
theorem dX7_come_41 : decode cX7_come 41 = .ok (.aload_n 0, 1) := by decide +kernel
theorem dX7_come_42 : decode cX7_come 42 = .ok (.getfield 111, 3) := by decide +kernel
theorem dX7_come_45 : decode cX7_come 45 = .ok (.iastore, 1) := by decide +kernel
theorem dX7_come_46 : decode cX7_come 46 = .ok (.iconst 1, 1) := by decide +kernel
theorem dX7_come_47 : decode cX7_come 47 = .ok (.istore_n 1, 1) := by decide +kernel
theorem dX7_come_48 : decode cX7_come 48 = .ok (.iconst 0, 1) := by decide +kernel
theorem dX7_come_49 : decode cX7_come 49 = .ok (.istore_n 2, 1) := by decide +kernel
theorem dX7_come_50 : decode cX7_come 50 = .ok (.iload_n 2, 1) := by decide +kernel
theorem dX7_come_51 : decode cX7_come 51 = .ok (.iload_n 1, 1) := by decide +kernel
theorem dX7_come_52 : decode cX7_come 52 = .ok (.if_icmp .ge 74, 3) := by decide +kernel
theorem dX7_come_55 : decode cX7_come 55 = .ok (.bipush 8, 2) := by decide +kernel
theorem dX7_come_57 : decode cX7_come 57 = .ok (.istore_n 3, 1) := by decide +kernel
theorem dX7_come_58 : decode cX7_come 58 = .ok (.iload_n 3, 1) := by decide +kernel
theorem dX7_come_59 : decode cX7_come 59 = .ok (.aload_n 0, 1) := by decide +kernel
theorem dX7_come_60 : decode cX7_come 60 = .ok (.invokevirtual 186, 3) := by decide +kernel
theorem dX7_come_63 : decode cX7_come 63 = .ok (.if_icmp .ge 57, 3) := by decide +kernel
theorem dX7_come_66 : decode cX7_come 66 = .ok (.aload_n 0, 1) := by decide +kernel
theorem dX7_come_67 : decode cX7_come 67 = .ok (.getfield 59, 3) := by decide +kernel
theorem dX7_come_70 : decode cX7_come 70 = .ok (.sipush 7737, 3) := by decide +kernel
theorem dX7_come_73 : decode cX7_come 73 = .ok (.iload_n 3, 1) := by decide +kernel
theorem dX7_come_74 : decode cX7_come 74 = .ok (.imul, 1) := by decide +kernel
theorem dX7_come_75 : decode cX7_come 75 = .ok (.aload_n 0, 1) := by decide +kernel
theorem dX7_come_76 : decode cX7_come 76 = .ok (.getfield 62, 3) := by decide +kernel
theorem dX7_come_79 : decode cX7_come 79 = .ok (.iload_n 2, 1) := by decide +kernel
theorem dX7_come_80 : decode cX7_come 80 = .ok (.iaload, 1) := by decide +kernel
theorem dX7_come_81 : decode cX7_come 81 = .ok (.iadd, 1) := by decide +kernel
theorem dX7_come_82 : decode cX7_come 82 = .ok (.iaload, 1) := by decide +kernel
theorem dX7_come_83 : decode cX7_come 83 = .ok (.istore 4, 2) := by decide +kernel
theorem dX7_come_85 : decode cX7_come 85 = .ok (.aload_n 0, 1) := by decide +kernel
theorem dX7_come_86 : decode cX7_come 86 = .ok (.getfield 65, 3) := by decide +kernel
theorem dX7_come_89 : decode cX7_come 89 = .ok (.iload 4, 2) := by decide +kernel
theorem dX7_come_91 : decode cX7_come 91 = .ok (.iaload, 1) := by decide +kernel
theorem dX7_come_92 : decode cX7_come 92 = .ok (.ifCond .ne 22, 3) := by decide +kernel
theorem dX7_come_95 : decode cX7_come 95 = .ok (.aload_n 0, 1) := by decide +kernel
theorem dX7_come_96 : decode cX7_come 96 = .ok (.getfield 65, 3) := by decide +kernel
theorem dX7_come_99 : decode cX7_come 99 = .ok (.iload 4, 2) := by decide +kernel
theorem dX7_come_101 : decode cX7_come 101 = .ok (.iconst 1, 1) := by decide +kernel
theorem dX7_come_102 : decode cX7_come 102 = .ok (.iastore, 1) := by decide +kernel
theorem dX7_come_103 : decode cX7_come 103 = .ok (.aload_n 0, 1) := by decide +kernel
theorem dX7_come_104 : decode cX7_come 104 = .ok (.getfield 62, 3) := by decide +kernel
theorem dX7_come_107 : decode cX7_come 107 = .ok (.iload_n 1, 1) := by decide +kernel
theorem dX7_come_108 : decode cX7_come 108 = .ok (.iload 4, 2) := by decide +kernel
theorem dX7_come_110 : decode cX7_come 110 = .ok (.iastore, 1) := by decide +kernel
theorem dX7_come_111 : decode cX7_come 111 = .ok (.iinc 1 1, 3) := by decide +kernel
theorem dX7_come_114 : decode cX7_come 114 = .ok (.iinc 3 1, 3) := by decide +kernel
theorem dX7_come_117 : decode cX7_come 117 = .ok (.goto (-59), 3) := by decide +kernel
theorem dX7_come_120 : decode cX7_come 120 = .ok (.iinc 2 1, 3) := by decide +kernel
theorem dX7_come_123 : decode cX7_come 123 = .ok (.goto (-73), 3) := by decide +kernel
theorem dX7_come_126 : decode cX7_come 126 = .ok (.iload_n 1, 1) := by decide +kernel
theorem dX7_come_127 : decode cX7_come 127 = .ok (.ireturn, 1) := by decide +kernel
theorem dX7_reading_0 : decode cX7_reading 0 = .ok (.aload_n 0, 1) := by decide +kernel
theorem dX7_reading_1 : decode cX7_reading 1 = .ok (.iload_n 1, 1) := by decide +kernel
theorem dX7_reading_2 : decode cX7_reading 2 = .ok (.invokevirtual 134, 3) := by decide +kernel
theorem dX7_reading_5 : decode cX7_reading 5 = .ok (.ifCond .ne 5, 3) := by decide +kernel
theorem dX7_reading_8 : decode cX7_reading 8 = .ok (.iconst (-1), 1) := by decide +kernel
theorem dX7_reading_9 : decode cX7_reading 9 = .ok (.ireturn, 1) := by decide +kernel
theorem dX7_reading_10 : decode cX7_reading 10 = .ok (.iload_n 2, 1) := by decide +kernel
theorem dX7_reading_11 : decode cX7_reading 11 = .ok (.iconst 0, 1) := by decide +kernel
theorem dX7_reading_12 : decode cX7_reading 12 = .ok (.iconst 5, 1) := by decide +kernel
theorem dX7_reading_13 : decode cX7_reading 13 = .ok (.invokestatic 80, 3) := by decide +kernel
theorem dX7_reading_16 : decode cX7_reading 16 = .ok (.ifCond .ne 6, 3) := by decide +kernel
theorem dX7_reading_19 : decode cX7_reading 19 = .ok (.bipush (-2), 2) := by decide +kernel
theorem dX7_reading_21 : decode cX7_reading 21 = .ok (.ireturn, 1) := by decide +kernel
theorem dX7_reading_22 : decode cX7_reading 22 = .ok (.aload_n 0, 1) := by decide +kernel
theorem dX7_reading_23 : decode cX7_reading 23 = .ok (.getfield 117, 3) := by decide +kernel
theorem dX7_reading_26 : decode cX7_reading 26 = .ok (.bipush 8, 2) := by decide +kernel
theorem dX7_reading_28 : decode cX7_reading 28 = .ok (.if_icmp .ne 6, 3) := by decide +kernel
theorem dX7_reading_31 : decode cX7_reading 31 = .ok (.bipush (-4), 2) := by decide +kernel
theorem dX7_reading_33 : decode cX7_reading 33 = .ok (.ireturn, 1) := by decide +kernel
theorem dX7_reading_34 : decode cX7_reading 34 = .ok (.aload_n 0, 1) := by decide +kernel
theorem dX7_reading_35 : decode cX7_reading 35 = .ok (.getfield 68, 3) := by decide +kernel
theorem dX7_reading_38 : decode cX7_reading 38 = .ok (.aload_n 0, 1) := by decide +kernel
theorem dX7_reading_39 : decode cX7_reading 39 = .ok (.getfield 117, 3) := by decide +kernel
theorem dX7_reading_42 : decode cX7_reading 42 = .ok (.iload_n 1, 1) := by decide +kernel
theorem dX7_reading_43 : decode cX7_reading 43 = .ok (.iastore, 1) := by decide +kernel
theorem dX7_reading_44 : decode cX7_reading 44 = .ok (.aload_n 0, 1) := by decide +kernel
theorem dX7_reading_45 : decode cX7_reading 45 = .ok (.getfield 71, 3) := by decide +kernel
theorem dX7_reading_48 : decode cX7_reading 48 = .ok (.aload_n 0, 1) := by decide +kernel
theorem dX7_reading_49 : decode cX7_reading 49 = .ok (.getfield 117, 3) := by decide +kernel
theorem dX7_reading_52 : decode cX7_reading 52 = .ok (.iload_n 2, 1) := by decide +kernel
theorem dX7_reading_53 : decode cX7_reading 53 = .ok (.iastore, 1) := by decide +kernel
theorem dX7_reading_54 : decode cX7_reading 54 = .ok (.aload_n 0, 1) := by decide +kernel
theorem dX7_reading_55 : decode cX7_reading 55 = .ok (.dup, 1) := by decide +kernel
theorem dX7_reading_56 : decode cX7_reading 56 = .ok (.getfield 117, 3) := by decide +kernel
theorem dX7_reading_59 : decode cX7_reading 59 = .ok (.iconst 1, 1) := by decide +kernel
theorem dX7_reading_60 : decode cX7_reading 60 = .ok (.iadd, 1) := by decide +kernel
theorem dX7_reading_61 : decode cX7_reading 61 = .ok (.putfield 117, 3) := by decide +kernel
theorem dX7_reading_64 : decode cX7_reading 64 = .ok (.aload_n 0, 1) := by decide +kernel
theorem dX7_reading_65 : decode cX7_reading 65 = .ok (.getfield 117, 3) := by decide +kernel
theorem dX7_reading_68 : decode cX7_reading 68 = .ok (.iconst 1, 1) := by decide +kernel
theorem dX7_reading_69 : decode cX7_reading 69 = .ok (.isub, 1) := by decide +kernel
theorem dX7_reading_70 : decode cX7_reading 70 = .ok (.ireturn, 1) := by decide +kernel
theorem dX7_back_0 : decode cX7_back 0 = .ok (.iload_n 1, 1) := by decide +kernel
theorem dX7_back_1 : decode cX7_back 1 = .ok (.iconst 0, 1) := by decide +kernel
theorem dX7_back_2 : decode cX7_back 2 = .ok (.aload_n 0, 1) := by decide +kernel
theorem dX7_back_3 : decode cX7_back 3 = .ok (.getfield 117, 3) := by decide +kernel
theorem dX7_back_6 : decode cX7_back 6 = .ok (.invokestatic 80, 3) := by decide +kernel
theorem dX7_back_9 : decode cX7_back 9 = .ok (.ifCond .ne 6, 3) := by decide +kernel
theorem dX7_back_12 : decode cX7_back 12 = .ok (.bipush (-2), 2) := by decide +kernel
theorem dX7_back_14 : decode cX7_back 14 = .ok (.ireturn, 1) := by decide +kernel
theorem dX7_back_15 : decode cX7_back 15 = .ok (.aload_n 0, 1) := by decide +kernel
theorem dX7_back_16 : decode cX7_back 16 = .ok (.dup, 1) := by decide +kernel
theorem dX7_back_17 : decode cX7_back 17 = .ok (.getfield 117, 3) := by decide +kernel
theorem dX7_back_20 : decode cX7_back 20 = .ok (.iload_n 1, 1) := by decide +kernel
theorem dX7_back_21 : decode cX7_back 21 = .ok (.isub, 1) := by decide +kernel
theorem dX7_back_22 : decode cX7_back 22 = .ok (.putfield 117, 3) := by decide +kernel
theorem dX7_back_25 : decode cX7_back 25 = .ok (.aload_n 0, 1) := by decide +kernel
theorem dX7_back_26 : decode cX7_back 26 = .ok (.getfield 117, 3) := by decide +kernel
theorem dX7_back_29 : decode cX7_back 29 = .ok (.ireturn, 1) := by decide +kernel
theorem dX7_areSo_0 : decode cX7_areSo 0 = .ok (.iconst 0, 1) := by decide +kernel
theorem dX7_areSo_1 : decode cX7_areSo 1 = .ok (.istore_n 1, 1) := by decide +kernel
theorem dX7_areSo_2 : decode cX7_areSo 2 = .ok (.iload_n 1, 1) := by decide +kernel
theorem dX7_areSo_3 : decode cX7_areSo 3 = .ok (.aload_n 0, 1) := by decide +kernel
theorem dX7_areSo_4 : decode cX7_areSo 4 = .ok (.getfield 117, 3) := by decide +kernel
theorem dX7_areSo_7 : decode cX7_areSo 7 = .ok (.if_icmp .ge 39, 3) := by decide +kernel
theorem dX7_areSo_10 : decode cX7_areSo 10 = .ok (.aload_n 0, 1) := by decide +kernel
theorem dX7_areSo_11 : decode cX7_areSo 11 = .ok (.iconst 0, 1) := by decide +kernel
theorem dX7_areSo_12 : decode cX7_areSo 12 = .ok (.invokevirtual 165, 3) := by decide +kernel
theorem dX7_areSo_15 : decode cX7_areSo 15 = .ok (.aload_n 0, 1) := by decide +kernel
theorem dX7_areSo_16 : decode cX7_areSo 16 = .ok (.aload_n 0, 1) := by decide +kernel
theorem dX7_areSo_17 : decode cX7_areSo 17 = .ok (.getfield 68, 3) := by decide +kernel
theorem dX7_areSo_20 : decode cX7_areSo 20 = .ok (.iload_n 1, 1) := by decide +kernel
theorem dX7_areSo_21 : decode cX7_areSo 21 = .ok (.iaload, 1) := by decide +kernel
theorem dX7_areSo_22 : decode cX7_areSo 22 = .ok (.invokevirtual 173, 3) := by decide +kernel
theorem dX7_areSo_25 : decode cX7_areSo 25 = .ok (.aload_n 0, 1) := by decide +kernel
theorem dX7_areSo_26 : decode cX7_areSo 26 = .ok (.getfield 140, 3) := by decide +kernel
theorem dX7_areSo_29 : decode cX7_areSo 29 = .ok (.aload_n 0, 1) := by decide +kernel
theorem dX7_areSo_30 : decode cX7_areSo 30 = .ok (.getfield 71, 3) := by decide +kernel
theorem dX7_areSo_33 : decode cX7_areSo 33 = .ok (.iload_n 1, 1) := by decide +kernel
theorem dX7_areSo_34 : decode cX7_areSo 34 = .ok (.iaload, 1) := by decide +kernel
theorem dX7_areSo_35 : decode cX7_areSo 35 = .ok (.if_icmp .eq 5, 3) := by decide +kernel
theorem dX7_areSo_38 : decode cX7_areSo 38 = .ok (.iconst 0, 1) := by decide +kernel
theorem dX7_areSo_39 : decode cX7_areSo 39 = .ok (.ireturn, 1) := by decide +kernel
theorem dX7_areSo_40 : decode cX7_areSo 40 = .ok (.iinc 1 1, 3) := by decide +kernel
theorem dX7_areSo_43 : decode cX7_areSo 43 = .ok (.goto (-41), 3) := by decide +kernel
theorem dX7_areSo_46 : decode cX7_areSo 46 = .ok (.iconst 1, 1) := by decide +kernel
theorem dX7_areSo_47 : decode cX7_areSo 47 = .ok (.ireturn, 1) := by decide +kernel
theorem dX7_timings_0 : decode cX7_timings 0 = .ok (.aload_n 0, 1) := by decide +kernel
theorem dX7_timings_1 : decode cX7_timings 1 = .ok (.iload_n 1, 1) := by decide +kernel
theorem dX7_timings_2 : decode cX7_timings 2 = .ok (.invokevirtual 134, 3) := by decide +kernel
theorem dX7_timings_5 : decode cX7_timings 5 = .ok (.ifCond .ne 5, 3) := by decide +kernel
theorem dX7_timings_8 : decode cX7_timings 8 = .ok (.iconst (-1), 1) := by decide +kernel
theorem dX7_timings_9 : decode cX7_timings 9 = .ok (.ireturn, 1) := by decide +kernel
theorem dX7_timings_10 : decode cX7_timings 10 = .ok (.aload_n 0, 1) := by decide +kernel
theorem dX7_timings_11 : decode cX7_timings 11 = .ok (.getfield 22, 3) := by decide +kernel
theorem dX7_timings_14 : decode cX7_timings 14 = .ok (.iload_n 1, 1) := by decide +kernel
theorem dX7_timings_15 : decode cX7_timings 15 = .ok (.iaload, 1) := by decide +kernel
theorem dX7_timings_16 : decode cX7_timings 16 = .ok (.istore_n 2, 1) := by decide +kernel
theorem dX7_timings_17 : decode cX7_timings 17 = .ok (.iconst 0, 1) := by decide +kernel
theorem dX7_timings_18 : decode cX7_timings 18 = .ok (.istore_n 3, 1) := by decide +kernel
theorem dX7_timings_19 : decode cX7_timings 19 = .ok (.iconst 1, 1) := by decide +kernel
theorem dX7_timings_20 : decode cX7_timings 20 = .ok (.istore 4, 2) := by decide +kernel
theorem dX7_timings_22 : decode cX7_timings 22 = .ok (.iload 4, 2) := by decide +kernel
theorem dX7_timings_24 : decode cX7_timings 24 = .ok (.iconst 3, 1) := by decide +kernel
theorem dX7_timings_25 : decode cX7_timings 25 = .ok (.if_icmp .gt 35, 3) := by decide +kernel
theorem dX7_timings_28 : decode cX7_timings 28 = .ok (.aload_n 0, 1) := by decide +kernel
theorem dX7_timings_29 : decode cX7_timings 29 = .ok (.getfield 22, 3) := by decide +kernel
theorem dX7_timings_32 : decode cX7_timings 32 = .ok (.iload_n 1, 1) := by decide +kernel
theorem dX7_timings_33 : decode cX7_timings 33 = .ok (.iload 4, 2) := by decide +kernel
theorem dX7_timings_35 : decode cX7_timings 35 = .ok (.iastore, 1) := by decide +kernel
theorem dX7_timings_36 : decode cX7_timings 36 = .ok (.iload_n 3, 1) := by decide +kernel
theorem dX7_timings_37 : decode cX7_timings 37 = .ok (.aload_n 0, 1) := by decide +kernel
theorem dX7_timings_38 : decode cX7_timings 38 = .ok (.invokevirtual 207, 3) := by decide +kernel
theorem dX7_timings_41 : decode cX7_timings 41 = .ok (.ifCond .eq 10, 3) := by decide +kernel
theorem dX7_timings_44 : decode cX7_timings 44 = .ok (.iconst 1, 1) := by decide +kernel
theorem dX7_timings_45 : decode cX7_timings 45 = .ok (.iload 4, 2) := by decide +kernel
theorem dX7_timings_47 : decode cX7_timings 47 = .ok (.ishl, 1) := by decide +kernel
theorem dX7_timings_48 : decode cX7_timings 48 = .ok (.goto 4, 3) := by decide +kernel
theorem dX7_timings_51 : decode cX7_timings 51 = .ok (.iconst 0, 1) := by decide +kernel
theorem dX7_timings_52 : decode cX7_timings 52 = .ok (.ior, 1) := by decide +kernel
theorem dX7_timings_53 : decode cX7_timings 53 = .ok (.istore_n 3, 1) := by decide +kernel
theorem dX7_timings_54 : decode cX7_timings 54 = .ok (.iinc 4 1, 3) := by decide +kernel
theorem dX7_timings_57 : decode cX7_timings 57 = .ok (.goto (-35), 3) := by decide +kernel
theorem dX7_timings_60 : decode cX7_timings 60 = .ok (.aload_n 0, 1) := by decide +kernel
theorem dX7_timings_61 : decode cX7_timings 61 = .ok (.getfield 22, 3) := by decide +kernel
theorem dX7_timings_64 : decode cX7_timings 64 = .ok (.iload_n 1, 1) := by decide +kernel
theorem dX7_timings_65 : decode cX7_timings 65 = .ok (.iload_n 2, 1) := by decide +kernel
theorem dX7_timings_66 : decode cX7_timings 66 = .ok (.iastore, 1) := by decide +kernel
theorem dX7_timings_67 : decode cX7_timings 67 = .ok (.iload_n 3, 1) := by decide +kernel
theorem dX7_timings_68 : decode cX7_timings 68 = .ok (.ireturn, 1) := by decide +kernel
theorem dX7_kinds_0 : decode cX7_kinds 0 = .ok (.aload_n 0, 1) := by decide +kernel
theorem dX7_kinds_1 : decode cX7_kinds 1 = .ok (.iload_n 1, 1) := by decide +kernel
theorem dX7_kinds_2 : decode cX7_kinds 2 = .ok (.invokevirtual 134, 3) := by decide +kernel
theorem dX7_kinds_5 : decode cX7_kinds 5 = .ok (.ifCond .ne 5, 3) := by decide +kernel
theorem dX7_kinds_8 : decode cX7_kinds 8 = .ok (.iconst (-1), 1) := by decide +kernel
theorem dX7_kinds_9 : decode cX7_kinds 9 = .ok (.ireturn, 1) := by decide +kernel
theorem dX7_kinds_10 : decode cX7_kinds 10 = .ok (.aload_n 0, 1) := by decide +kernel
theorem dX7_kinds_11 : decode cX7_kinds 11 = .ok (.getfield 19, 3) := by decide +kernel
theorem dX7_kinds_14 : decode cX7_kinds 14 = .ok (.iload_n 1, 1) := by decide +kernel
theorem dX7_kinds_15 : decode cX7_kinds 15 = .ok (.iaload, 1) := by decide +kernel
theorem dX7_kinds_16 : decode cX7_kinds 16 = .ok (.istore_n 2, 1) := by decide +kernel
theorem dX7_kinds_17 : decode cX7_kinds 17 = .ok (.iconst 0, 1) := by decide +kernel
theorem dX7_kinds_18 : decode cX7_kinds 18 = .ok (.istore_n 3, 1) := by decide +kernel
theorem dX7_kinds_19 : decode cX7_kinds 19 = .ok (.iconst 0, 1) := by decide +kernel
theorem dX7_kinds_20 : decode cX7_kinds 20 = .ok (.istore 4, 2) := by decide +kernel
theorem dX7_kinds_22 : decode cX7_kinds 22 = .ok (.iload 4, 2) := by decide +kernel
theorem dX7_kinds_24 : decode cX7_kinds 24 = .ok (.iconst 3, 1) := by decide +kernel
theorem dX7_kinds_25 : decode cX7_kinds 25 = .ok (.if_icmp .ge 35, 3) := by decide +kernel
theorem dX7_kinds_28 : decode cX7_kinds 28 = .ok (.aload_n 0, 1) := by decide +kernel
theorem dX7_kinds_29 : decode cX7_kinds 29 = .ok (.getfield 19, 3) := by decide +kernel
theorem dX7_kinds_32 : decode cX7_kinds 32 = .ok (.iload_n 1, 1) := by decide +kernel
theorem dX7_kinds_33 : decode cX7_kinds 33 = .ok (.iload 4, 2) := by decide +kernel
theorem dX7_kinds_35 : decode cX7_kinds 35 = .ok (.iastore, 1) := by decide +kernel
theorem dX7_kinds_36 : decode cX7_kinds 36 = .ok (.iload_n 3, 1) := by decide +kernel
theorem dX7_kinds_37 : decode cX7_kinds 37 = .ok (.aload_n 0, 1) := by decide +kernel
theorem dX7_kinds_38 : decode cX7_kinds 38 = .ok (.invokevirtual 207, 3) := by decide +kernel
theorem dX7_kinds_41 : decode cX7_kinds 41 = .ok (.ifCond .eq 10, 3) := by decide +kernel
theorem dX7_kinds_44 : decode cX7_kinds 44 = .ok (.iconst 1, 1) := by decide +kernel
theorem dX7_kinds_45 : decode cX7_kinds 45 = .ok (.iload 4, 2) := by decide +kernel
theorem dX7_kinds_47 : decode cX7_kinds 47 = .ok (.ishl, 1) := by decide +kernel
theorem dX7_kinds_48 : decode cX7_kinds 48 = .ok (.goto 4, 3) := by decide +kernel
theorem dX7_kinds_51 : decode cX7_kinds 51 = .ok (.iconst 0, 1) := by decide +kernel
theorem dX7_kinds_52 : decode cX7_kinds 52 = .ok (.ior, 1) := by decide +kernel
theorem dX7_kinds_53 : decode cX7_kinds 53 = .ok (.istore_n 3, 1) := by decide +kernel
theorem dX7_kinds_54 : decode cX7_kinds 54 = .ok (.iinc 4 1, 3) := by decide +kernel
theorem dX7_kinds_57 : decode cX7_kinds 57 = .ok (.goto (-35), 3) := by decide +kernel
theorem dX7_kinds_60 : decode cX7_kinds 60 = .ok (.aload_n 0, 1) := by decide +kernel
theorem dX7_kinds_61 : decode cX7_kinds 61 = .ok (.getfield 19, 3) := by decide +kernel
theorem dX7_kinds_64 : decode cX7_kinds 64 = .ok (.iload_n 1, 1) := by decide +kernel
theorem dX7_kinds_65 : decode cX7_kinds 65 = .ok (.iload_n 2, 1) := by decide +kernel
theorem dX7_kinds_66 : decode cX7_kinds 66 = .ok (.iastore, 1) := by decide +kernel
theorem dX7_kinds_67 : decode cX7_kinds 67 = .ok (.iload_n 3, 1) := by decide +kernel
theorem dX7_kinds_68 : decode cX7_kinds 68 = .ok (.ireturn, 1) := by decide +kernel
theorem dX7_inLeastTerms_0 : decode cX7_inLeastTerms 0 = .ok (.lload_n 0, 1) := by decide +kernel
theorem dX7_inLeastTerms_1 : decode cX7_inLeastTerms 1 = .ok (.lstore 5, 2) := by decide +kernel
theorem dX7_inLeastTerms_3 : decode cX7_inLeastTerms 3 = .ok (.lload_n 2, 1) := by decide +kernel
theorem dX7_inLeastTerms_4 : decode cX7_inLeastTerms 4 = .ok (.lstore 7, 2) := by decide +kernel
theorem dX7_inLeastTerms_6 : decode cX7_inLeastTerms 6 = .ok (.lload 7, 2) := by decide +kernel
theorem dX7_inLeastTerms_8 : decode cX7_inLeastTerms 8 = .ok (.lconst 0, 1) := by decide +kernel
theorem dX7_inLeastTerms_9 : decode cX7_inLeastTerms 9 = .ok (.lcmp, 1) := by decide +kernel
theorem dX7_inLeastTerms_10 : decode cX7_inLeastTerms 10 = .ok (.ifCond .eq 21, 3) := by decide +kernel
theorem dX7_inLeastTerms_13 : decode cX7_inLeastTerms 13 = .ok (.lload 5, 2) := by decide +kernel
theorem dX7_inLeastTerms_15 : decode cX7_inLeastTerms 15 = .ok (.lload 7, 2) := by decide +kernel
theorem dX7_inLeastTerms_17 : decode cX7_inLeastTerms 17 = .ok (.lrem, 1) := by decide +kernel
theorem dX7_inLeastTerms_18 : decode cX7_inLeastTerms 18 = .ok (.lstore 9, 2) := by decide +kernel
theorem dX7_inLeastTerms_20 : decode cX7_inLeastTerms 20 = .ok (.lload 7, 2) := by decide +kernel
theorem dX7_inLeastTerms_22 : decode cX7_inLeastTerms 22 = .ok (.lstore 5, 2) := by decide +kernel
theorem dX7_inLeastTerms_24 : decode cX7_inLeastTerms 24 = .ok (.lload 9, 2) := by decide +kernel
theorem dX7_inLeastTerms_26 : decode cX7_inLeastTerms 26 = .ok (.lstore 7, 2) := by decide +kernel
theorem dX7_inLeastTerms_28 : decode cX7_inLeastTerms 28 = .ok (.goto (-22), 3) := by decide +kernel
theorem dX7_inLeastTerms_31 : decode cX7_inLeastTerms 31 = .ok (.iload 4, 2) := by decide +kernel
theorem dX7_inLeastTerms_33 : decode cX7_inLeastTerms 33 = .ok (.ifCond .ne 10, 3) := by decide +kernel
theorem dX7_inLeastTerms_36 : decode cX7_inLeastTerms 36 = .ok (.lload_n 0, 1) := by decide +kernel
theorem dX7_inLeastTerms_37 : decode cX7_inLeastTerms 37 = .ok (.lload 5, 2) := by decide +kernel
theorem dX7_inLeastTerms_39 : decode cX7_inLeastTerms 39 = .ok (.ldiv, 1) := by decide +kernel
theorem dX7_inLeastTerms_40 : decode cX7_inLeastTerms 40 = .ok (.goto 7, 3) := by decide +kernel
theorem dX7_inLeastTerms_43 : decode cX7_inLeastTerms 43 = .ok (.lload_n 2, 1) := by decide +kernel
theorem dX7_inLeastTerms_44 : decode cX7_inLeastTerms 44 = .ok (.lload 5, 2) := by decide +kernel
theorem dX7_inLeastTerms_46 : decode cX7_inLeastTerms 46 = .ok (.ldiv, 1) := by decide +kernel
theorem dX7_inLeastTerms_47 : decode cX7_inLeastTerms 47 = .ok (.lreturn, 1) := by decide +kernel
theorem dX7_odds_0 : decode cX7_odds 0 = .ok (.iload_n 1, 1) := by decide +kernel
theorem dX7_odds_1 : decode cX7_odds 1 = .ok (.iconst 0, 1) := by decide +kernel
theorem dX7_odds_2 : decode cX7_odds 2 = .ok (.iconst 4, 1) := by decide +kernel
theorem dX7_odds_3 : decode cX7_odds 3 = .ok (.invokestatic 80, 3) := by decide +kernel
theorem dX7_odds_6 : decode cX7_odds 6 = .ok (.ifCond .eq 12, 3) := by decide +kernel
theorem dX7_odds_9 : decode cX7_odds 9 = .ok (.iload_n 2, 1) := by decide +kernel
theorem dX7_odds_10 : decode cX7_odds 10 = .ok (.iconst 0, 1) := by decide +kernel
theorem dX7_odds_11 : decode cX7_odds 11 = .ok (.iconst 1, 1) := by decide +kernel
theorem dX7_odds_12 : decode cX7_odds 12 = .ok (.invokestatic 80, 3) := by decide +kernel
theorem dX7_odds_15 : decode cX7_odds 15 = .ok (.ifCond .ne 7, 3) := by decide +kernel
theorem dX7_odds_18 : decode cX7_odds 18 = .ok (.ldc2_w 78, 3) := by decide +kernel
theorem dX7_odds_21 : decode cX7_odds 21 = .ok (.lreturn, 1) := by decide +kernel
theorem dX7_odds_22 : decode cX7_odds 22 = .ok (.iconst 1, 1) := by decide +kernel
theorem dX7_odds_23 : decode cX7_odds 23 = .ok (.iconst 3, 1) := by decide +kernel
theorem dX7_odds_24 : decode cX7_odds 24 = .ok (.iload_n 1, 1) := by decide +kernel
theorem dX7_odds_25 : decode cX7_odds 25 = .ok (.imul, 1) := by decide +kernel
theorem dX7_odds_26 : decode cX7_odds 26 = .ok (.ishl, 1) := by decide +kernel
theorem dX7_odds_27 : decode cX7_odds 27 = .ok (.istore_n 3, 1) := by decide +kernel
theorem dX7_odds_28 : decode cX7_odds 28 = .ok (.iconst 0, 1) := by decide +kernel
theorem dX7_odds_29 : decode cX7_odds 29 = .ok (.istore 4, 2) := by decide +kernel
theorem dX7_odds_31 : decode cX7_odds 31 = .ok (.iconst 0, 1) := by decide +kernel
theorem dX7_odds_32 : decode cX7_odds 32 = .ok (.istore 5, 2) := by decide +kernel
theorem dX7_odds_34 : decode cX7_odds 34 = .ok (.iload 5, 2) := by decide +kernel
theorem dX7_odds_36 : decode cX7_odds 36 = .ok (.iload_n 3, 1) := by decide +kernel
theorem dX7_odds_37 : decode cX7_odds 37 = .ok (.if_icmp .ge 64, 3) := by decide +kernel
theorem dX7_odds_40 : decode cX7_odds 40 = .ok (.aload_n 0, 1) := by decide +kernel
theorem dX7_odds_41 : decode cX7_odds 41 = .ok (.aload_n 0, 1) := by decide +kernel
theorem dX7_odds_42 : decode cX7_odds 42 = .ok (.getfield 111, 3) := by decide +kernel
theorem dX7_odds_45 : decode cX7_odds 45 = .ok (.invokevirtual 165, 3) := by decide +kernel
theorem dX7_odds_48 : decode cX7_odds 48 = .ok (.iconst 0, 1) := by decide +kernel
theorem dX7_odds_49 : decode cX7_odds 49 = .ok (.istore 6, 2) := by decide +kernel
theorem dX7_odds_51 : decode cX7_odds 51 = .ok (.iload 6, 2) := by decide +kernel
theorem dX7_odds_53 : decode cX7_odds 53 = .ok (.iload_n 1, 1) := by decide +kernel
theorem dX7_odds_54 : decode cX7_odds 54 = .ok (.if_icmp .ge 24, 3) := by decide +kernel
theorem dX7_odds_57 : decode cX7_odds 57 = .ok (.aload_n 0, 1) := by decide +kernel
theorem dX7_odds_58 : decode cX7_odds 58 = .ok (.iload 5, 2) := by decide +kernel
theorem dX7_odds_60 : decode cX7_odds 60 = .ok (.iconst 3, 1) := by decide +kernel
theorem dX7_odds_61 : decode cX7_odds 61 = .ok (.iload 6, 2) := by decide +kernel
theorem dX7_odds_63 : decode cX7_odds 63 = .ok (.imul, 1) := by decide +kernel
theorem dX7_odds_64 : decode cX7_odds 64 = .ok (.ishr, 1) := by decide +kernel
theorem dX7_odds_65 : decode cX7_odds 65 = .ok (.bipush 7, 2) := by decide +kernel
theorem dX7_odds_67 : decode cX7_odds 67 = .ok (.iand, 1) := by decide +kernel
theorem dX7_odds_68 : decode cX7_odds 68 = .ok (.invokevirtual 162, 3) := by decide +kernel
theorem dX7_odds_71 : decode cX7_odds 71 = .ok (.pop, 1) := by decide +kernel
theorem dX7_odds_72 : decode cX7_odds 72 = .ok (.iinc 6 1, 3) := by decide +kernel
theorem dX7_odds_75 : decode cX7_odds 75 = .ok (.goto (-24), 3) := by decide +kernel
theorem dX7_odds_78 : decode cX7_odds 78 = .ok (.iload 4, 2) := by decide +kernel
theorem dX7_odds_80 : decode cX7_odds 80 = .ok (.aload_n 0, 1) := by decide +kernel
theorem dX7_odds_81 : decode cX7_odds 81 = .ok (.getfield 140, 3) := by decide +kernel
theorem dX7_odds_84 : decode cX7_odds 84 = .ok (.ifCond .ne 7, 3) := by decide +kernel
theorem dX7_odds_87 : decode cX7_odds 87 = .ok (.iconst 1, 1) := by decide +kernel
theorem dX7_odds_88 : decode cX7_odds 88 = .ok (.goto 4, 3) := by decide +kernel
theorem dX7_odds_91 : decode cX7_odds 91 = .ok (.iconst 0, 1) := by decide +kernel
theorem dX7_odds_92 : decode cX7_odds 92 = .ok (.iadd, 1) := by decide +kernel
theorem dX7_odds_93 : decode cX7_odds 93 = .ok (.istore 4, 2) := by decide +kernel
theorem dX7_odds_95 : decode cX7_odds 95 = .ok (.iinc 5 1, 3) := by decide +kernel
theorem dX7_odds_98 : decode cX7_odds 98 = .ok (.goto (-64), 3) := by decide +kernel
theorem dX7_odds_101 : decode cX7_odds 101 = .ok (.iload 4, 2) := by decide +kernel
theorem dX7_odds_103 : decode cX7_odds 103 = .ok (.i2l, 1) := by decide +kernel
theorem dX7_odds_104 : decode cX7_odds 104 = .ok (.iload_n 3, 1) := by decide +kernel
theorem dX7_odds_105 : decode cX7_odds 105 = .ok (.i2l, 1) := by decide +kernel
theorem dX7_odds_106 : decode cX7_odds 106 = .ok (.iload_n 2, 1) := by decide +kernel
theorem dX7_odds_107 : decode cX7_odds 107 = .ok (.invokestatic 210, 3) := by decide +kernel
theorem dX7_odds_110 : decode cX7_odds 110 = .ok (.lreturn, 1) := by decide +kernel
theorem dX7_sheet_0 : decode cX7_sheet 0 = .ok (.aload_n 0, 1) := by decide +kernel
theorem dX7_sheet_1 : decode cX7_sheet 1 = .ok (.iconst 0, 1) := by decide +kernel
theorem dX7_sheet_2 : decode cX7_sheet 2 = .ok (.putfield 74, 3) := by decide +kernel
theorem dX7_sheet_5 : decode cX7_sheet 5 = .ok (.iload_n 1, 1) := by decide +kernel
theorem dX7_sheet_6 : decode cX7_sheet 6 = .ok (.invokestatic 87, 3) := by decide +kernel
theorem dX7_sheet_9 : decode cX7_sheet 9 = .ok (.ifCond .ne 5, 3) := by decide +kernel
theorem dX7_sheet_12 : decode cX7_sheet 12 = .ok (.iconst (-1), 1) := by decide +kernel
theorem dX7_sheet_13 : decode cX7_sheet 13 = .ok (.ireturn, 1) := by decide +kernel
theorem dX7_sheet_14 : decode cX7_sheet 14 = .ok (.iload_n 2, 1) := by decide +kernel
theorem dX7_sheet_15 : decode cX7_sheet 15 = .ok (.invokestatic 91, 3) := by decide +kernel
theorem dX7_sheet_18 : decode cX7_sheet 18 = .ok (.ifCond .eq 9, 3) := by decide +kernel
theorem dX7_sheet_21 : decode cX7_sheet 21 = .ok (.iload_n 3, 1) := by decide +kernel
theorem dX7_sheet_22 : decode cX7_sheet 22 = .ok (.bipush 60, 2) := by decide +kernel
theorem dX7_sheet_24 : decode cX7_sheet 24 = .ok (.if_icmp .le 6, 3) := by decide +kernel
theorem dX7_sheet_27 : decode cX7_sheet 27 = .ok (.bipush (-2), 2) := by decide +kernel
theorem dX7_sheet_29 : decode cX7_sheet 29 = .ok (.ireturn, 1) := by decide +kernel
theorem dX7_sheet_30 : decode cX7_sheet 30 = .ok (.iload_n 3, 1) := by decide +kernel
theorem dX7_sheet_31 : decode cX7_sheet 31 = .ok (.ifCond .ge 9, 3) := by decide +kernel
theorem dX7_sheet_34 : decode cX7_sheet 34 = .ok (.aload_n 0, 1) := by decide +kernel
theorem dX7_sheet_35 : decode cX7_sheet 35 = .ok (.iconst 4, 1) := by decide +kernel
theorem dX7_sheet_36 : decode cX7_sheet 36 = .ok (.invokevirtual 98, 3) := by decide +kernel
theorem dX7_sheet_39 : decode cX7_sheet 39 = .ok (.ireturn, 1) := by decide +kernel
theorem dX7_sheet_40 : decode cX7_sheet 40 = .ok (.aload_n 0, 1) := by decide +kernel
theorem dX7_sheet_41 : decode cX7_sheet 41 = .ok (.getfield 9, 3) := by decide +kernel
theorem dX7_sheet_44 : decode cX7_sheet 44 = .ok (.iload_n 1, 1) := by decide +kernel
theorem dX7_sheet_45 : decode cX7_sheet 45 = .ok (.iload_n 2, 1) := by decide +kernel
theorem dX7_sheet_46 : decode cX7_sheet 46 = .ok (.iastore, 1) := by decide +kernel
theorem dX7_sheet_47 : decode cX7_sheet 47 = .ok (.aload_n 0, 1) := by decide +kernel
theorem dX7_sheet_48 : decode cX7_sheet 48 = .ok (.getfield 13, 3) := by decide +kernel
theorem dX7_sheet_51 : decode cX7_sheet 51 = .ok (.iload_n 1, 1) := by decide +kernel
theorem dX7_sheet_52 : decode cX7_sheet 52 = .ok (.iload_n 3, 1) := by decide +kernel
theorem dX7_sheet_53 : decode cX7_sheet 53 = .ok (.iastore, 1) := by decide +kernel
theorem dX7_sheet_54 : decode cX7_sheet 54 = .ok (.iconst 0, 1) := by decide +kernel
theorem dX7_sheet_55 : decode cX7_sheet 55 = .ok (.istore 4, 2) := by decide +kernel
theorem dX7_sheet_57 : decode cX7_sheet 57 = .ok (.iload 4, 2) := by decide +kernel
theorem dX7_sheet_59 : decode cX7_sheet 59 = .ok (.bipush 60, 2) := by decide +kernel
theorem dX7_sheet_61 : decode cX7_sheet 61 = .ok (.if_icmp .ge 22, 3) := by decide +kernel
theorem dX7_sheet_64 : decode cX7_sheet 64 = .ok (.aload_n 0, 1) := by decide +kernel
theorem dX7_sheet_65 : decode cX7_sheet 65 = .ok (.getfield 16, 3) := by decide +kernel
theorem dX7_sheet_68 : decode cX7_sheet 68 = .ok (.bipush 60, 2) := by decide +kernel
theorem dX7_sheet_70 : decode cX7_sheet 70 = .ok (.iload_n 1, 1) := by decide +kernel
theorem dX7_sheet_71 : decode cX7_sheet 71 = .ok (.imul, 1) := by decide +kernel
theorem dX7_sheet_72 : decode cX7_sheet 72 = .ok (.iload 4, 2) := by decide +kernel
theorem dX7_sheet_74 : decode cX7_sheet 74 = .ok (.iadd, 1) := by decide +kernel
theorem dX7_sheet_75 : decode cX7_sheet 75 = .ok (.iconst 0, 1) := by decide +kernel
theorem dX7_sheet_76 : decode cX7_sheet 76 = .ok (.iastore, 1) := by decide +kernel
theorem dX7_sheet_77 : decode cX7_sheet 77 = .ok (.iinc 4 1, 3) := by decide +kernel
theorem dX7_sheet_80 : decode cX7_sheet 80 = .ok (.goto (-23), 3) := by decide +kernel
theorem dX7_sheet_83 : decode cX7_sheet 83 = .ok (.iconst 1, 1) := by decide +kernel
theorem dX7_sheet_84 : decode cX7_sheet 84 = .ok (.ireturn, 1) := by decide +kernel
theorem dX7_lose_0 : decode cX7_lose 0 = .ok (.iload_n 1, 1) := by decide +kernel
theorem dX7_lose_1 : decode cX7_lose 1 = .ok (.invokestatic 87, 3) := by decide +kernel
theorem dX7_lose_4 : decode cX7_lose 4 = .ok (.ifCond .ne 5, 3) := by decide +kernel
theorem dX7_lose_7 : decode cX7_lose 7 = .ok (.iconst (-1), 1) := by decide +kernel
theorem dX7_lose_8 : decode cX7_lose 8 = .ok (.ireturn, 1) := by decide +kernel
theorem dX7_lose_9 : decode cX7_lose 9 = .ok (.aload_n 0, 1) := by decide +kernel
theorem dX7_lose_10 : decode cX7_lose 10 = .ok (.getfield 9, 3) := by decide +kernel
theorem dX7_lose_13 : decode cX7_lose 13 = .ok (.iload_n 1, 1) := by decide +kernel
theorem dX7_lose_14 : decode cX7_lose 14 = .ok (.iaload, 1) := by decide +kernel
theorem dX7_lose_15 : decode cX7_lose 15 = .ok (.bipush (-9), 2) := by decide +kernel
theorem dX7_lose_17 : decode cX7_lose 17 = .ok (.if_icmp .ne 7, 3) := by decide +kernel
theorem dX7_lose_20 : decode cX7_lose 20 = .ok (.iconst 0, 1) := by decide +kernel
theorem dX7_lose_21 : decode cX7_lose 21 = .ok (.goto 4, 3) := by decide +kernel
theorem dX7_lose_24 : decode cX7_lose 24 = .ok (.iconst 1, 1) := by decide +kernel
theorem dX7_lose_25 : decode cX7_lose 25 = .ok (.istore_n 2, 1) := by decide +kernel
theorem dX7_lose_26 : decode cX7_lose 26 = .ok (.aload_n 0, 1) := by decide +kernel
theorem dX7_lose_27 : decode cX7_lose 27 = .ok (.getfield 9, 3) := by decide +kernel
theorem dX7_lose_30 : decode cX7_lose 30 = .ok (.iload_n 1, 1) := by decide +kernel
theorem dX7_lose_31 : decode cX7_lose 31 = .ok (.bipush (-9), 2) := by decide +kernel
theorem dX7_lose_33 : decode cX7_lose 33 = .ok (.iastore, 1) := by decide +kernel
theorem dX7_lose_34 : decode cX7_lose 34 = .ok (.iload_n 2, 1) := by decide +kernel
theorem dX7_lose_35 : decode cX7_lose 35 = .ok (.ireturn, 1) := by decide +kernel
theorem dX7_put_0 : decode cX7_put 0 = .ok (.aload_n 0, 1) := by decide +kernel
theorem dX7_put_1 : decode cX7_put 1 = .ok (.iconst 0, 1) := by decide +kernel
theorem dX7_put_2 : decode cX7_put 2 = .ok (.putfield 74, 3) := by decide +kernel
theorem dX7_put_5 : decode cX7_put 5 = .ok (.iload_n 1, 1) := by decide +kernel
theorem dX7_put_6 : decode cX7_put 6 = .ok (.invokestatic 87, 3) := by decide +kernel
theorem dX7_put_9 : decode cX7_put 9 = .ok (.ifCond .ne 5, 3) := by decide +kernel
theorem dX7_put_12 : decode cX7_put 12 = .ok (.iconst (-1), 1) := by decide +kernel
theorem dX7_put_13 : decode cX7_put 13 = .ok (.ireturn, 1) := by decide +kernel
theorem dX7_put_14 : decode cX7_put 14 = .ok (.aload_n 0, 1) := by decide +kernel
theorem dX7_put_15 : decode cX7_put 15 = .ok (.getfield 9, 3) := by decide +kernel
theorem dX7_put_18 : decode cX7_put 18 = .ok (.iload_n 1, 1) := by decide +kernel
theorem dX7_put_19 : decode cX7_put 19 = .ok (.iaload, 1) := by decide +kernel
theorem dX7_put_20 : decode cX7_put 20 = .ok (.bipush (-9), 2) := by decide +kernel
theorem dX7_put_22 : decode cX7_put 22 = .ok (.if_icmp .ne 9, 3) := by decide +kernel
theorem dX7_put_25 : decode cX7_put 25 = .ok (.aload_n 0, 1) := by decide +kernel
theorem dX7_put_26 : decode cX7_put 26 = .ok (.iconst 1, 1) := by decide +kernel
theorem dX7_put_27 : decode cX7_put 27 = .ok (.invokevirtual 98, 3) := by decide +kernel
theorem dX7_put_30 : decode cX7_put 30 = .ok (.ireturn, 1) := by decide +kernel
theorem dX7_put_31 : decode cX7_put 31 = .ok (.iload_n 2, 1) := by decide +kernel
theorem dX7_put_32 : decode cX7_put 32 = .ok (.iconst 0, 1) := by decide +kernel
theorem dX7_put_33 : decode cX7_put 33 = .ok (.aload_n 0, 1) := by decide +kernel
theorem dX7_put_34 : decode cX7_put 34 = .ok (.getfield 13, 3) := by decide +kernel
theorem dX7_put_37 : decode cX7_put 37 = .ok (.iload_n 1, 1) := by decide +kernel
theorem dX7_put_38 : decode cX7_put 38 = .ok (.iaload, 1) := by decide +kernel
theorem dX7_put_39 : decode cX7_put 39 = .ok (.iconst 1, 1) := by decide +kernel
theorem dX7_put_40 : decode cX7_put 40 = .ok (.isub, 1) := by decide +kernel
theorem dX7_put_41 : decode cX7_put 41 = .ok (.invokestatic 80, 3) := by decide +kernel
theorem dX7_put_44 : decode cX7_put 44 = .ok (.ifCond .ne 9, 3) := by decide +kernel
theorem dX7_put_47 : decode cX7_put 47 = .ok (.aload_n 0, 1) := by decide +kernel
theorem dX7_put_48 : decode cX7_put 48 = .ok (.iconst 3, 1) := by decide +kernel
theorem dX7_put_49 : decode cX7_put 49 = .ok (.invokevirtual 98, 3) := by decide +kernel
theorem dX7_put_52 : decode cX7_put 52 = .ok (.ireturn, 1) := by decide +kernel
theorem dX7_put_53 : decode cX7_put 53 = .ok (.aload_n 0, 1) := by decide +kernel
theorem dX7_put_54 : decode cX7_put 54 = .ok (.getfield 16, 3) := by decide +kernel
theorem dX7_put_57 : decode cX7_put 57 = .ok (.bipush 60, 2) := by decide +kernel
theorem dX7_put_59 : decode cX7_put 59 = .ok (.iload_n 1, 1) := by decide +kernel
theorem dX7_put_60 : decode cX7_put 60 = .ok (.imul, 1) := by decide +kernel
theorem dX7_put_61 : decode cX7_put 61 = .ok (.iload_n 2, 1) := by decide +kernel
theorem dX7_put_62 : decode cX7_put 62 = .ok (.iadd, 1) := by decide +kernel
theorem dX7_put_63 : decode cX7_put 63 = .ok (.aload_n 0, 1) := by decide +kernel
theorem dX7_put_64 : decode cX7_put 64 = .ok (.getfield 9, 3) := by decide +kernel
theorem dX7_put_67 : decode cX7_put 67 = .ok (.iload_n 1, 1) := by decide +kernel
theorem dX7_put_68 : decode cX7_put 68 = .ok (.iaload, 1) := by decide +kernel
theorem dX7_put_69 : decode cX7_put 69 = .ok (.ifCond .ne 8, 3) := by decide +kernel
theorem dX7_put_72 : decode cX7_put 72 = .ok (.iload_n 3, 1) := by decide +kernel
theorem dX7_put_73 : decode cX7_put 73 = .ok (.i2b, 1) := by decide +kernel
theorem dX7_put_74 : decode cX7_put 74 = .ok (.goto 19, 3) := by decide +kernel
theorem dX7_put_77 : decode cX7_put 77 = .ok (.aload_n 0, 1) := by decide +kernel
theorem dX7_put_78 : decode cX7_put 78 = .ok (.getfield 9, 3) := by decide +kernel
theorem dX7_put_81 : decode cX7_put 81 = .ok (.iload_n 1, 1) := by decide +kernel
theorem dX7_put_82 : decode cX7_put 82 = .ok (.iaload, 1) := by decide +kernel
theorem dX7_put_83 : decode cX7_put 83 = .ok (.iconst 1, 1) := by decide +kernel
theorem dX7_put_84 : decode cX7_put 84 = .ok (.if_icmp .ne 8, 3) := by decide +kernel
theorem dX7_put_87 : decode cX7_put 87 = .ok (.iload_n 3, 1) := by decide +kernel
theorem dX7_put_88 : decode cX7_put 88 = .ok (.i2s, 1) := by decide +kernel
theorem dX7_put_89 : decode cX7_put 89 = .ok (.goto 4, 3) := by decide +kernel
theorem dX7_put_92 : decode cX7_put 92 = .ok (.iload_n 3, 1) := by decide +kernel
theorem dX7_put_93 : decode cX7_put 93 = .ok (.iastore, 1) := by decide +kernel
theorem dX7_put_94 : decode cX7_put 94 = .ok (.iconst 1, 1) := by decide +kernel
theorem dX7_put_95 : decode cX7_put 95 = .ok (.ireturn, 1) := by decide +kernel
theorem dX7_cell_0 : decode cX7_cell 0 = .ok (.aload_n 0, 1) := by decide +kernel
theorem dX7_cell_1 : decode cX7_cell 1 = .ok (.iconst 0, 1) := by decide +kernel
theorem dX7_cell_2 : decode cX7_cell 2 = .ok (.putfield 74, 3) := by decide +kernel
theorem dX7_cell_5 : decode cX7_cell 5 = .ok (.iload_n 1, 1) := by decide +kernel
theorem dX7_cell_6 : decode cX7_cell 6 = .ok (.invokestatic 87, 3) := by decide +kernel
theorem dX7_cell_9 : decode cX7_cell 9 = .ok (.ifCond .eq 10, 3) := by decide +kernel
theorem dX7_cell_12 : decode cX7_cell 12 = .ok (.iload_n 3, 1) := by decide +kernel
theorem dX7_cell_13 : decode cX7_cell 13 = .ok (.invokestatic 91, 3) := by decide +kernel
theorem dX7_cell_16 : decode cX7_cell 16 = .ok (.ifCond .ne 7, 3) := by decide +kernel
theorem dX7_cell_19 : decode cX7_cell 19 = .ok (.ldc2_w 78, 3) := by decide +kernel
theorem dX7_cell_22 : decode cX7_cell 22 = .ok (.lreturn, 1) := by decide +kernel
theorem dX7_cell_23 : decode cX7_cell 23 = .ok (.aload_n 0, 1) := by decide +kernel
theorem dX7_cell_24 : decode cX7_cell 24 = .ok (.getfield 9, 3) := by decide +kernel
theorem dX7_cell_27 : decode cX7_cell 27 = .ok (.iload_n 1, 1) := by decide +kernel
theorem dX7_cell_28 : decode cX7_cell 28 = .ok (.iaload, 1) := by decide +kernel
theorem dX7_cell_29 : decode cX7_cell 29 = .ok (.bipush (-9), 2) := by decide +kernel
theorem dX7_cell_31 : decode cX7_cell 31 = .ok (.if_icmp .eq 19, 3) := by decide +kernel
theorem dX7_cell_34 : decode cX7_cell 34 = .ok (.aload_n 0, 1) := by decide +kernel
theorem dX7_cell_35 : decode cX7_cell 35 = .ok (.getfield 9, 3) := by decide +kernel
theorem dX7_cell_38 : decode cX7_cell 38 = .ok (.iload_n 1, 1) := by decide +kernel
theorem dX7_cell_39 : decode cX7_cell 39 = .ok (.iaload, 1) := by decide +kernel
theorem dX7_cell_40 : decode cX7_cell 40 = .ok (.iload_n 3, 1) := by decide +kernel
theorem dX7_cell_41 : decode cX7_cell 41 = .ok (.if_icmp .eq 9, 3) := by decide +kernel
theorem dX7_cell_44 : decode cX7_cell 44 = .ok (.aload_n 0, 1) := by decide +kernel
theorem dX7_cell_45 : decode cX7_cell 45 = .ok (.iconst 2, 1) := by decide +kernel
theorem dX7_cell_46 : decode cX7_cell 46 = .ok (.invokevirtual 214, 3) := by decide +kernel
theorem dX7_cell_49 : decode cX7_cell 49 = .ok (.lreturn, 1) := by decide +kernel
theorem dX7_cell_50 : decode cX7_cell 50 = .ok (.aload_n 0, 1) := by decide +kernel
theorem dX7_cell_51 : decode cX7_cell 51 = .ok (.getfield 9, 3) := by decide +kernel
theorem dX7_cell_54 : decode cX7_cell 54 = .ok (.iload_n 1, 1) := by decide +kernel
theorem dX7_cell_55 : decode cX7_cell 55 = .ok (.iaload, 1) := by decide +kernel
theorem dX7_cell_56 : decode cX7_cell 56 = .ok (.bipush (-9), 2) := by decide +kernel
theorem dX7_cell_58 : decode cX7_cell 58 = .ok (.if_icmp .ne 9, 3) := by decide +kernel
theorem dX7_cell_61 : decode cX7_cell 61 = .ok (.aload_n 0, 1) := by decide +kernel
theorem dX7_cell_62 : decode cX7_cell 62 = .ok (.iconst 1, 1) := by decide +kernel
theorem dX7_cell_63 : decode cX7_cell 63 = .ok (.invokevirtual 214, 3) := by decide +kernel
theorem dX7_cell_66 : decode cX7_cell 66 = .ok (.lreturn, 1) := by decide +kernel
theorem dX7_cell_67 : decode cX7_cell 67 = .ok (.iload_n 2, 1) := by decide +kernel
theorem dX7_cell_68 : decode cX7_cell 68 = .ok (.iconst 0, 1) := by decide +kernel
theorem dX7_cell_69 : decode cX7_cell 69 = .ok (.aload_n 0, 1) := by decide +kernel
theorem dX7_cell_70 : decode cX7_cell 70 = .ok (.getfield 13, 3) := by decide +kernel
theorem dX7_cell_73 : decode cX7_cell 73 = .ok (.iload_n 1, 1) := by decide +kernel
theorem dX7_cell_74 : decode cX7_cell 74 = .ok (.iaload, 1) := by decide +kernel
theorem dX7_cell_75 : decode cX7_cell 75 = .ok (.iconst 1, 1) := by decide +kernel
theorem dX7_cell_76 : decode cX7_cell 76 = .ok (.isub, 1) := by decide +kernel
theorem dX7_cell_77 : decode cX7_cell 77 = .ok (.invokestatic 80, 3) := by decide +kernel
theorem dX7_cell_80 : decode cX7_cell 80 = .ok (.ifCond .ne 9, 3) := by decide +kernel
theorem dX7_cell_83 : decode cX7_cell 83 = .ok (.aload_n 0, 1) := by decide +kernel
theorem dX7_cell_84 : decode cX7_cell 84 = .ok (.iconst 3, 1) := by decide +kernel
theorem dX7_cell_85 : decode cX7_cell 85 = .ok (.invokevirtual 214, 3) := by decide +kernel
theorem dX7_cell_88 : decode cX7_cell 88 = .ok (.lreturn, 1) := by decide +kernel
theorem dX7_cell_89 : decode cX7_cell 89 = .ok (.aload_n 0, 1) := by decide +kernel
theorem dX7_cell_90 : decode cX7_cell 90 = .ok (.getfield 16, 3) := by decide +kernel
theorem dX7_cell_93 : decode cX7_cell 93 = .ok (.bipush 60, 2) := by decide +kernel
theorem dX7_cell_95 : decode cX7_cell 95 = .ok (.iload_n 1, 1) := by decide +kernel
theorem dX7_cell_96 : decode cX7_cell 96 = .ok (.imul, 1) := by decide +kernel
theorem dX7_cell_97 : decode cX7_cell 97 = .ok (.iload_n 2, 1) := by decide +kernel
theorem dX7_cell_98 : decode cX7_cell 98 = .ok (.iadd, 1) := by decide +kernel
theorem dX7_cell_99 : decode cX7_cell 99 = .ok (.iaload, 1) := by decide +kernel
theorem dX7_cell_100 : decode cX7_cell 100 = .ok (.i2l, 1) := by decide +kernel
theorem dX7_cell_101 : decode cX7_cell 101 = .ok (.lreturn, 1) := by decide +kernel
theorem dX7_copy_0 : decode cX7_copy 0 = .ok (.aload_n 0, 1) := by decide +kernel
theorem dX7_copy_1 : decode cX7_copy 1 = .ok (.iconst 0, 1) := by decide +kernel
theorem dX7_copy_2 : decode cX7_copy 2 = .ok (.putfield 74, 3) := by decide +kernel
theorem dX7_copy_5 : decode cX7_copy 5 = .ok (.iload_n 1, 1) := by decide +kernel
theorem dX7_copy_6 : decode cX7_copy 6 = .ok (.invokestatic 87, 3) := by decide +kernel
theorem dX7_copy_9 : decode cX7_copy 9 = .ok (.ifCond .eq 10, 3) := by decide +kernel
theorem dX7_copy_12 : decode cX7_copy 12 = .ok (.iload_n 3, 1) := by decide +kernel
theorem dX7_copy_13 : decode cX7_copy 13 = .ok (.invokestatic 87, 3) := by decide +kernel
theorem dX7_copy_16 : decode cX7_copy 16 = .ok (.ifCond .ne 5, 3) := by decide +kernel
theorem dX7_copy_19 : decode cX7_copy 19 = .ok (.iconst (-1), 1) := by decide +kernel
theorem dX7_copy_20 : decode cX7_copy 20 = .ok (.ireturn, 1) := by decide +kernel
theorem dX7_copy_21 : decode cX7_copy 21 = .ok (.aload_n 0, 1) := by decide +kernel
theorem dX7_copy_22 : decode cX7_copy 22 = .ok (.getfield 9, 3) := by decide +kernel
theorem dX7_copy_25 : decode cX7_copy 25 = .ok (.iload_n 1, 1) := by decide +kernel
theorem dX7_copy_26 : decode cX7_copy 26 = .ok (.iaload, 1) := by decide +kernel
theorem dX7_copy_27 : decode cX7_copy 27 = .ok (.bipush (-9), 2) := by decide +kernel
theorem dX7_copy_29 : decode cX7_copy 29 = .ok (.if_icmp .eq 14, 3) := by decide +kernel
theorem dX7_copy_32 : decode cX7_copy 32 = .ok (.aload_n 0, 1) := by decide +kernel
theorem dX7_copy_33 : decode cX7_copy 33 = .ok (.getfield 9, 3) := by decide +kernel
theorem dX7_copy_36 : decode cX7_copy 36 = .ok (.iload_n 3, 1) := by decide +kernel
theorem dX7_copy_37 : decode cX7_copy 37 = .ok (.iaload, 1) := by decide +kernel
theorem dX7_copy_38 : decode cX7_copy 38 = .ok (.bipush (-9), 2) := by decide +kernel
theorem dX7_copy_40 : decode cX7_copy 40 = .ok (.if_icmp .ne 9, 3) := by decide +kernel
theorem dX7_copy_43 : decode cX7_copy 43 = .ok (.aload_n 0, 1) := by decide +kernel
theorem dX7_copy_44 : decode cX7_copy 44 = .ok (.iconst 1, 1) := by decide +kernel
theorem dX7_copy_45 : decode cX7_copy 45 = .ok (.invokevirtual 98, 3) := by decide +kernel
theorem dX7_copy_48 : decode cX7_copy 48 = .ok (.ireturn, 1) := by decide +kernel
theorem dX7_copy_49 : decode cX7_copy 49 = .ok (.aload_n 0, 1) := by decide +kernel
theorem dX7_copy_50 : decode cX7_copy 50 = .ok (.getfield 9, 3) := by decide +kernel
theorem dX7_copy_53 : decode cX7_copy 53 = .ok (.iload_n 1, 1) := by decide +kernel
theorem dX7_copy_54 : decode cX7_copy 54 = .ok (.iaload, 1) := by decide +kernel
theorem dX7_copy_55 : decode cX7_copy 55 = .ok (.aload_n 0, 1) := by decide +kernel
theorem dX7_copy_56 : decode cX7_copy 56 = .ok (.getfield 9, 3) := by decide +kernel
theorem dX7_copy_59 : decode cX7_copy 59 = .ok (.iload_n 3, 1) := by decide +kernel
theorem dX7_copy_60 : decode cX7_copy 60 = .ok (.iaload, 1) := by decide +kernel
theorem dX7_copy_61 : decode cX7_copy 61 = .ok (.if_icmp .eq 9, 3) := by decide +kernel
theorem dX7_copy_64 : decode cX7_copy 64 = .ok (.aload_n 0, 1) := by decide +kernel
theorem dX7_copy_65 : decode cX7_copy 65 = .ok (.iconst 2, 1) := by decide +kernel
theorem dX7_copy_66 : decode cX7_copy 66 = .ok (.invokevirtual 98, 3) := by decide +kernel
theorem dX7_copy_69 : decode cX7_copy 69 = .ok (.ireturn, 1) := by decide +kernel
theorem dX7_copy_70 : decode cX7_copy 70 = .ok (.iload_n 2, 1) := by decide +kernel
theorem dX7_copy_71 : decode cX7_copy 71 = .ok (.ifCond .lt 38, 3) := by decide +kernel
theorem dX7_copy_74 : decode cX7_copy 74 = .ok (.iload 4, 2) := by decide +kernel
theorem dX7_copy_76 : decode cX7_copy 76 = .ok (.ifCond .lt 33, 3) := by decide +kernel
theorem dX7_copy_79 : decode cX7_copy 79 = .ok (.iload 5, 2) := by decide +kernel
theorem dX7_copy_81 : decode cX7_copy 81 = .ok (.ifCond .lt 28, 3) := by decide +kernel
theorem dX7_copy_84 : decode cX7_copy 84 = .ok (.iload_n 2, 1) := by decide +kernel
theorem dX7_copy_85 : decode cX7_copy 85 = .ok (.aload_n 0, 1) := by decide +kernel
theorem dX7_copy_86 : decode cX7_copy 86 = .ok (.getfield 13, 3) := by decide +kernel
theorem dX7_copy_89 : decode cX7_copy 89 = .ok (.iload_n 1, 1) := by decide +kernel
theorem dX7_copy_90 : decode cX7_copy 90 = .ok (.iaload, 1) := by decide +kernel
theorem dX7_copy_91 : decode cX7_copy 91 = .ok (.if_icmp .gt 18, 3) := by decide +kernel
theorem dX7_copy_94 : decode cX7_copy 94 = .ok (.iload 4, 2) := by decide +kernel
theorem dX7_copy_96 : decode cX7_copy 96 = .ok (.aload_n 0, 1) := by decide +kernel
theorem dX7_copy_97 : decode cX7_copy 97 = .ok (.getfield 13, 3) := by decide +kernel
theorem dX7_copy_100 : decode cX7_copy 100 = .ok (.iload_n 3, 1) := by decide +kernel
theorem dX7_copy_101 : decode cX7_copy 101 = .ok (.iaload, 1) := by decide +kernel
theorem dX7_copy_102 : decode cX7_copy 102 = .ok (.if_icmp .gt 7, 3) := by decide +kernel
theorem dX7_copy_105 : decode cX7_copy 105 = .ok (.iconst 1, 1) := by decide +kernel
theorem dX7_copy_106 : decode cX7_copy 106 = .ok (.goto 4, 3) := by decide +kernel
theorem dX7_copy_109 : decode cX7_copy 109 = .ok (.iconst 0, 1) := by decide +kernel
theorem dX7_copy_110 : decode cX7_copy 110 = .ok (.istore 6, 2) := by decide +kernel
theorem dX7_copy_112 : decode cX7_copy 112 = .ok (.iload 6, 2) := by decide +kernel
theorem dX7_copy_114 : decode cX7_copy 114 = .ok (.ifCond .eq 30, 3) := by decide +kernel
theorem dX7_copy_117 : decode cX7_copy 117 = .ok (.iload 5, 2) := by decide +kernel
theorem dX7_copy_119 : decode cX7_copy 119 = .ok (.aload_n 0, 1) := by decide +kernel
theorem dX7_copy_120 : decode cX7_copy 120 = .ok (.getfield 13, 3) := by decide +kernel
theorem dX7_copy_123 : decode cX7_copy 123 = .ok (.iload_n 1, 1) := by decide +kernel
theorem dX7_copy_124 : decode cX7_copy 124 = .ok (.iaload, 1) := by decide +kernel
theorem dX7_copy_125 : decode cX7_copy 125 = .ok (.iload_n 2, 1) := by decide +kernel
theorem dX7_copy_126 : decode cX7_copy 126 = .ok (.isub, 1) := by decide +kernel
theorem dX7_copy_127 : decode cX7_copy 127 = .ok (.if_icmp .gt 17, 3) := by decide +kernel
theorem dX7_copy_130 : decode cX7_copy 130 = .ok (.iload 5, 2) := by decide +kernel
theorem dX7_copy_132 : decode cX7_copy 132 = .ok (.aload_n 0, 1) := by decide +kernel
theorem dX7_copy_133 : decode cX7_copy 133 = .ok (.getfield 13, 3) := by decide +kernel
theorem dX7_copy_136 : decode cX7_copy 136 = .ok (.iload_n 3, 1) := by decide +kernel
theorem dX7_copy_137 : decode cX7_copy 137 = .ok (.iaload, 1) := by decide +kernel
theorem dX7_copy_138 : decode cX7_copy 138 = .ok (.iload 4, 2) := by decide +kernel
theorem dX7_copy_140 : decode cX7_copy 140 = .ok (.isub, 1) := by decide +kernel
theorem dX7_copy_141 : decode cX7_copy 141 = .ok (.if_icmp .le 9, 3) := by decide +kernel
theorem dX7_copy_144 : decode cX7_copy 144 = .ok (.aload_n 0, 1) := by decide +kernel
theorem dX7_copy_145 : decode cX7_copy 145 = .ok (.iconst 3, 1) := by decide +kernel
theorem dX7_copy_146 : decode cX7_copy 146 = .ok (.invokevirtual 98, 3) := by decide +kernel
theorem dX7_copy_149 : decode cX7_copy 149 = .ok (.ireturn, 1) := by decide +kernel
theorem dX7_copy_150 : decode cX7_copy 150 = .ok (.iload_n 2, 1) := by decide +kernel
theorem dX7_copy_151 : decode cX7_copy 151 = .ok (.iload 4, 2) := by decide +kernel
theorem dX7_copy_153 : decode cX7_copy 153 = .ok (.if_icmp .ge 7, 3) := by decide +kernel
theorem dX7_copy_156 : decode cX7_copy 156 = .ok (.iconst 1, 1) := by decide +kernel
theorem dX7_copy_157 : decode cX7_copy 157 = .ok (.goto 4, 3) := by decide +kernel
theorem dX7_copy_160 : decode cX7_copy 160 = .ok (.iconst 0, 1) := by decide +kernel
theorem dX7_copy_161 : decode cX7_copy 161 = .ok (.istore 7, 2) := by decide +kernel
theorem dX7_copy_163 : decode cX7_copy 163 = .ok (.iconst 0, 1) := by decide +kernel
theorem dX7_copy_164 : decode cX7_copy 164 = .ok (.istore 8, 2) := by decide +kernel
theorem dX7_copy_166 : decode cX7_copy 166 = .ok (.iload 8, 2) := by decide +kernel
theorem dX7_copy_168 : decode cX7_copy 168 = .ok (.iload 5, 2) := by decide +kernel
theorem dX7_copy_170 : decode cX7_copy 170 = .ok (.if_icmp .ge 57, 3) := by decide +kernel
theorem dX7_copy_173 : decode cX7_copy 173 = .ok (.iload 7, 2) := by decide +kernel
theorem dX7_copy_175 : decode cX7_copy 175 = .ok (.ifCond .eq 13, 3) := by decide +kernel
theorem dX7_copy_178 : decode cX7_copy 178 = .ok (.iload 5, 2) := by decide +kernel
theorem dX7_copy_180 : decode cX7_copy 180 = .ok (.iconst 1, 1) := by decide +kernel
theorem dX7_copy_181 : decode cX7_copy 181 = .ok (.isub, 1) := by decide +kernel
theorem dX7_copy_182 : decode cX7_copy 182 = .ok (.iload 8, 2) := by decide +kernel
theorem dX7_copy_184 : decode cX7_copy 184 = .ok (.isub, 1) := by decide +kernel
theorem dX7_copy_185 : decode cX7_copy 185 = .ok (.goto 5, 3) := by decide +kernel
theorem dX7_copy_188 : decode cX7_copy 188 = .ok (.iload 8, 2) := by decide +kernel
theorem dX7_copy_190 : decode cX7_copy 190 = .ok (.istore 9, 2) := by decide +kernel
theorem dX7_copy_192 : decode cX7_copy 192 = .ok (.aload_n 0, 1) := by decide +kernel
theorem dX7_copy_193 : decode cX7_copy 193 = .ok (.getfield 16, 3) := by decide +kernel
theorem dX7_copy_196 : decode cX7_copy 196 = .ok (.bipush 60, 2) := by decide +kernel
theorem dX7_copy_198 : decode cX7_copy 198 = .ok (.iload_n 3, 1) := by decide +kernel
theorem dX7_copy_199 : decode cX7_copy 199 = .ok (.imul, 1) := by decide +kernel
theorem dX7_copy_200 : decode cX7_copy 200 = .ok (.iload 4, 2) := by decide +kernel
theorem dX7_copy_202 : decode cX7_copy 202 = .ok (.iadd, 1) := by decide +kernel
theorem dX7_copy_203 : decode cX7_copy 203 = .ok (.iload 9, 2) := by decide +kernel
theorem dX7_copy_205 : decode cX7_copy 205 = .ok (.iadd, 1) := by decide +kernel
theorem dX7_copy_206 : decode cX7_copy 206 = .ok (.aload_n 0, 1) := by decide +kernel
theorem dX7_copy_207 : decode cX7_copy 207 = .ok (.getfield 16, 3) := by decide +kernel
theorem dX7_copy_210 : decode cX7_copy 210 = .ok (.bipush 60, 2) := by decide +kernel
theorem dX7_copy_212 : decode cX7_copy 212 = .ok (.iload_n 1, 1) := by decide +kernel
theorem dX7_copy_213 : decode cX7_copy 213 = .ok (.imul, 1) := by decide +kernel
theorem dX7_copy_214 : decode cX7_copy 214 = .ok (.iload_n 2, 1) := by decide +kernel
theorem dX7_copy_215 : decode cX7_copy 215 = .ok (.iadd, 1) := by decide +kernel
theorem dX7_copy_216 : decode cX7_copy 216 = .ok (.iload 9, 2) := by decide +kernel
theorem dX7_copy_218 : decode cX7_copy 218 = .ok (.iadd, 1) := by decide +kernel
theorem dX7_copy_219 : decode cX7_copy 219 = .ok (.iaload, 1) := by decide +kernel
theorem dX7_copy_220 : decode cX7_copy 220 = .ok (.iastore, 1) := by decide +kernel
theorem dX7_copy_221 : decode cX7_copy 221 = .ok (.iinc 8 1, 3) := by decide +kernel
theorem dX7_copy_224 : decode cX7_copy 224 = .ok (.goto (-58), 3) := by decide +kernel
theorem dX7_copy_227 : decode cX7_copy 227 = .ok (.iload 5, 2) := by decide +kernel
theorem dX7_copy_229 : decode cX7_copy 229 = .ok (.ireturn, 1) := by decide +kernel
theorem dX7_begins_0 : decode cX7_begins 0 = .ok (.aload_n 0, 1) := by decide +kernel
theorem dX7_begins_1 : decode cX7_begins 1 = .ok (.bipush 31, 2) := by decide +kernel
theorem dX7_begins_3 : decode cX7_begins 3 = .ok (.aload_n 0, 1) := by decide +kernel
theorem dX7_begins_4 : decode cX7_begins 4 = .ok (.getfield 218, 3) := by decide +kernel
theorem dX7_begins_7 : decode cX7_begins 7 = .ok (.imul, 1) := by decide +kernel
theorem dX7_begins_8 : decode cX7_begins 8 = .ok (.iload_n 1, 1) := by decide +kernel
theorem dX7_begins_9 : decode cX7_begins 9 = .ok (.iadd, 1) := by decide +kernel
theorem dX7_begins_10 : decode cX7_begins 10 = .ok (.putfield 218, 3) := by decide +kernel
theorem dX7_begins_13 : decode cX7_begins 13 = .ok (.return_, 1) := by decide +kernel
theorem dX7_tell_0 : decode cX7_tell 0 = .ok (.aload_n 0, 1) := by decide +kernel
theorem dX7_tell_1 : decode cX7_tell 1 = .ok (.iload_n 1, 1) := by decide +kernel
theorem dX7_tell_2 : decode cX7_tell 2 = .ok (.invokevirtual 134, 3) := by decide +kernel
theorem dX7_tell_5 : decode cX7_tell 5 = .ok (.ifCond .ne 5, 3) := by decide +kernel
theorem dX7_tell_8 : decode cX7_tell 8 = .ok (.iconst (-1), 1) := by decide +kernel
theorem dX7_tell_9 : decode cX7_tell 9 = .ok (.ireturn, 1) := by decide +kernel
theorem dX7_tell_10 : decode cX7_tell 10 = .ok (.aload_n 0, 1) := by decide +kernel
theorem dX7_tell_11 : decode cX7_tell 11 = .ok (.getfield 22, 3) := by decide +kernel
theorem dX7_tell_14 : decode cX7_tell 14 = .ok (.iload_n 1, 1) := by decide +kernel
theorem dX7_tell_15 : decode cX7_tell 15 = .ok (.iaload, 1) := by decide +kernel
theorem dX7_tell_16 : decode cX7_tell 16 = .ok (.istore_n 2, 1) := by decide +kernel
theorem dX7_tell_17 : decode cX7_tell 17 = .ok (.aload_n 0, 1) := by decide +kernel
theorem dX7_tell_18 : decode cX7_tell 18 = .ok (.getfield 19, 3) := by decide +kernel
theorem dX7_tell_21 : decode cX7_tell 21 = .ok (.iload_n 1, 1) := by decide +kernel
theorem dX7_tell_22 : decode cX7_tell 22 = .ok (.iaload, 1) := by decide +kernel
theorem dX7_tell_23 : decode cX7_tell 23 = .ok (.lookupswitch 67 #[(1, 25), (2, 40)], 25) := by decide +kernel
theorem dX7_tell_48 : decode cX7_tell 48 = .ok (.aload_n 0, 1) := by decide +kernel
theorem dX7_tell_49 : decode cX7_tell 49 = .ok (.iconst 2, 1) := by decide +kernel
theorem dX7_tell_50 : decode cX7_tell 50 = .ok (.invokevirtual 221, 3) := by decide +kernel
theorem dX7_tell_53 : decode cX7_tell 53 = .ok (.aload_n 0, 1) := by decide +kernel
theorem dX7_tell_54 : decode cX7_tell 54 = .ok (.iconst 1, 1) := by decide +kernel
theorem dX7_tell_55 : decode cX7_tell 55 = .ok (.invokevirtual 221, 3) := by decide +kernel
theorem dX7_tell_58 : decode cX7_tell 58 = .ok (.iload_n 2, 1) := by decide +kernel
theorem dX7_tell_59 : decode cX7_tell 59 = .ok (.bipush 100, 2) := by decide +kernel
theorem dX7_tell_61 : decode cX7_tell 61 = .ok (.iadd, 1) := by decide +kernel
theorem dX7_tell_62 : decode cX7_tell 62 = .ok (.ireturn, 1) := by decide +kernel
theorem dX7_tell_63 : decode cX7_tell 63 = .ok (.aload_n 0, 1) := by decide +kernel
theorem dX7_tell_64 : decode cX7_tell 64 = .ok (.iconst 3, 1) := by decide +kernel
theorem dX7_tell_65 : decode cX7_tell 65 = .ok (.invokevirtual 221, 3) := by decide +kernel
theorem dX7_tell_68 : decode cX7_tell 68 = .ok (.aload_n 0, 1) := by decide +kernel
theorem dX7_tell_69 : decode cX7_tell 69 = .ok (.iconst 2, 1) := by decide +kernel
theorem dX7_tell_70 : decode cX7_tell 70 = .ok (.invokevirtual 221, 3) := by decide +kernel
theorem dX7_tell_73 : decode cX7_tell 73 = .ok (.aload_n 0, 1) := by decide +kernel
theorem dX7_tell_74 : decode cX7_tell 74 = .ok (.iconst 1, 1) := by decide +kernel
theorem dX7_tell_75 : decode cX7_tell 75 = .ok (.invokevirtual 221, 3) := by decide +kernel
theorem dX7_tell_78 : decode cX7_tell 78 = .ok (.aload_n 0, 1) := by decide +kernel
theorem dX7_tell_79 : decode cX7_tell 79 = .ok (.iconst 1, 1) := by decide +kernel
theorem dX7_tell_80 : decode cX7_tell 80 = .ok (.invokevirtual 221, 3) := by decide +kernel
theorem dX7_tell_83 : decode cX7_tell 83 = .ok (.iconst 2, 1) := by decide +kernel
theorem dX7_tell_84 : decode cX7_tell 84 = .ok (.iload_n 2, 1) := by decide +kernel
theorem dX7_tell_85 : decode cX7_tell 85 = .ok (.imul, 1) := by decide +kernel
theorem dX7_tell_86 : decode cX7_tell 86 = .ok (.bipush 100, 2) := by decide +kernel
theorem dX7_tell_88 : decode cX7_tell 88 = .ok (.iadd, 1) := by decide +kernel
theorem dX7_tell_89 : decode cX7_tell 89 = .ok (.ireturn, 1) := by decide +kernel
theorem dX7_tell_90 : decode cX7_tell 90 = .ok (.aload_n 0, 1) := by decide +kernel
theorem dX7_tell_91 : decode cX7_tell 91 = .ok (.iconst 1, 1) := by decide +kernel
theorem dX7_tell_92 : decode cX7_tell 92 = .ok (.invokevirtual 221, 3) := by decide +kernel
theorem dX7_tell_95 : decode cX7_tell 95 = .ok (.iload_n 2, 1) := by decide +kernel
theorem dX7_tell_96 : decode cX7_tell 96 = .ok (.ireturn, 1) := by decide +kernel
theorem dX7_click_0 : decode cX7_click 0 = .ok (.aload_n 0, 1) := by decide +kernel
theorem dX7_click_1 : decode cX7_click 1 = .ok (.iload_n 1, 1) := by decide +kernel
theorem dX7_click_2 : decode cX7_click 2 = .ok (.invokevirtual 134, 3) := by decide +kernel
theorem dX7_click_5 : decode cX7_click 5 = .ok (.ifCond .ne 5, 3) := by decide +kernel
theorem dX7_click_8 : decode cX7_click 8 = .ok (.iconst (-1), 1) := by decide +kernel
theorem dX7_click_9 : decode cX7_click 9 = .ok (.ireturn, 1) := by decide +kernel
theorem dX7_click_10 : decode cX7_click 10 = .ok (.aload_n 0, 1) := by decide +kernel
theorem dX7_click_11 : decode cX7_click 11 = .ok (.aload_n 0, 1) := by decide +kernel
theorem dX7_click_12 : decode cX7_click 12 = .ok (.getfield 19, 3) := by decide +kernel
theorem dX7_click_15 : decode cX7_click 15 = .ok (.iload_n 1, 1) := by decide +kernel
theorem dX7_click_16 : decode cX7_click 16 = .ok (.iaload, 1) := by decide +kernel
theorem dX7_click_17 : decode cX7_click 17 = .ok (.iconst 2, 1) := by decide +kernel
theorem dX7_click_18 : decode cX7_click 18 = .ok (.if_icmp .ne 7, 3) := by decide +kernel
theorem dX7_click_21 : decode cX7_click 21 = .ok (.iconst 5, 1) := by decide +kernel
theorem dX7_click_22 : decode cX7_click 22 = .ok (.goto 4, 3) := by decide +kernel
theorem dX7_click_25 : decode cX7_click 25 = .ok (.iconst 4, 1) := by decide +kernel
theorem dX7_click_26 : decode cX7_click 26 = .ok (.invokevirtual 221, 3) := by decide +kernel
theorem dX7_click_29 : decode cX7_click 29 = .ok (.aload_n 0, 1) := by decide +kernel
theorem dX7_click_30 : decode cX7_click 30 = .ok (.getfield 19, 3) := by decide +kernel
theorem dX7_click_33 : decode cX7_click 33 = .ok (.iload_n 1, 1) := by decide +kernel
theorem dX7_click_34 : decode cX7_click 34 = .ok (.iaload, 1) := by decide +kernel
theorem dX7_click_35 : decode cX7_click 35 = .ok (.iconst 2, 1) := by decide +kernel
theorem dX7_click_36 : decode cX7_click 36 = .ok (.if_icmp .ne 8, 3) := by decide +kernel
theorem dX7_click_39 : decode cX7_click 39 = .ok (.bipush 90, 2) := by decide +kernel
theorem dX7_click_41 : decode cX7_click 41 = .ok (.goto 9, 3) := by decide +kernel
theorem dX7_click_44 : decode cX7_click 44 = .ok (.aload_n 0, 1) := by decide +kernel
theorem dX7_click_45 : decode cX7_click 45 = .ok (.getfield 25, 3) := by decide +kernel
theorem dX7_click_48 : decode cX7_click 48 = .ok (.iload_n 1, 1) := by decide +kernel
theorem dX7_click_49 : decode cX7_click 49 = .ok (.iaload, 1) := by decide +kernel
theorem dX7_click_50 : decode cX7_click 50 = .ok (.ireturn, 1) := by decide +kernel
theorem dX7_as_0 : decode cX7_as 0 = .ok (.aload_n 0, 1) := by decide +kernel
theorem dX7_as_1 : decode cX7_as 1 = .ok (.iconst 0, 1) := by decide +kernel
theorem dX7_as_2 : decode cX7_as 2 = .ok (.putfield 74, 3) := by decide +kernel
theorem dX7_as_5 : decode cX7_as 5 = .ok (.aload_n 0, 1) := by decide +kernel
theorem dX7_as_6 : decode cX7_as 6 = .ok (.iload_n 1, 1) := by decide +kernel
theorem dX7_as_7 : decode cX7_as 7 = .ok (.invokevirtual 134, 3) := by decide +kernel
theorem dX7_as_10 : decode cX7_as 10 = .ok (.ifCond .ne 5, 3) := by decide +kernel

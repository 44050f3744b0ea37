theorem dX0_init_0 : decode cX0_init 0 = .ok (.aload_n 0, 1) := by decide +kernel
theorem dX0_init_1 : decode cX0_init 1 = .ok (.invokespecial 3, 3) := by decide +kernel
theorem dX0_init_4 : decode cX0_init 4 = .ok (.aload_n 0, 1) := by decide +kernel
theorem dX0_init_5 : decode cX0_init 5 = .ok (.iconst 3, 1) := by decide +kernel
theorem dX0_init_6 : decode cX0_init 6 = .ok (.anewarray 9, 3) := by decide +kernel
theorem dX0_init_9 : decode cX0_init 9 = .ok (.dup, 1) := by decide +kernel
theorem dX0_init_10 : decode cX0_init 10 = .ok (.iconst 0, 1) := by decide +kernel
theorem dX0_init_11 : decode cX0_init 11 = .ok (.new 9, 3) := by decide +kernel
theorem dX0_init_14 : decode cX0_init 14 = .ok (.dup, 1) := by decide +kernel
theorem dX0_init_15 : decode cX0_init 15 = .ok (.invokespecial 11, 3) := by decide +kernel
theorem dX0_init_18 : decode cX0_init 18 = .ok (.aastore, 1) := by decide +kernel
theorem dX0_init_19 : decode cX0_init 19 = .ok (.dup, 1) := by decide +kernel
theorem dX0_init_20 : decode cX0_init 20 = .ok (.iconst 1, 1) := by decide +kernel
theorem dX0_init_21 : decode cX0_init 21 = .ok (.new 9, 3) := by decide +kernel
theorem dX0_init_24 : decode cX0_init 24 = .ok (.dup, 1) := by decide +kernel
theorem dX0_init_25 : decode cX0_init 25 = .ok (.invokespecial 11, 3) := by decide +kernel
theorem dX0_init_28 : decode cX0_init 28 = .ok (.aastore, 1) := by decide +kernel
theorem dX0_init_29 : decode cX0_init 29 = .ok (.dup, 1) := by decide +kernel
theorem dX0_init_30 : decode cX0_init 30 = .ok (.iconst 2, 1) := by decide +kernel
theorem dX0_init_31 : decode cX0_init 31 = .ok (.new 9, 3) := by decide +kernel
theorem dX0_init_34 : decode cX0_init 34 = .ok (.dup, 1) := by decide +kernel
theorem dX0_init_35 : decode cX0_init 35 = .ok (.invokespecial 11, 3) := by decide +kernel
theorem dX0_init_38 : decode cX0_init 38 = .ok (.aastore, 1) := by decide +kernel
theorem dX0_init_39 : decode cX0_init 39 = .ok (.putfield 12, 3) := by decide +kernel
theorem dX0_init_42 : decode cX0_init 42 = .ok (.aload_n 0, 1) := by decide +kernel
theorem dX0_init_43 : decode cX0_init 43 = .ok (.sipush 23211, 3) := by decide +kernel
theorem dX0_init_46 : decode cX0_init 46 = .ok (.newarray .int, 2) := by decide +kernel
theorem dX0_init_48 : decode cX0_init 48 = .ok (.putfield 20, 3) := by decide +kernel
theorem dX0_init_51 : decode cX0_init 51 = .ok (.return_, 1) := by decide +kernel
theorem dX0_become_0 : decode cX0_become 0 = .ok (.aload_n 0, 1) := by decide +kernel
theorem dX0_become_1 : decode cX0_become 1 = .ok (.aload_n 1, 1) := by decide +kernel
theorem dX0_become_2 : decode cX0_become 2 = .ok (.getfield 24, 3) := by decide +kernel
theorem dX0_become_5 : decode cX0_become 5 = .ok (.putfield 30, 3) := by decide +kernel
theorem dX0_become_8 : decode cX0_become 8 = .ok (.iconst 0, 1) := by decide +kernel
theorem dX0_become_9 : decode cX0_become 9 = .ok (.istore_n 2, 1) := by decide +kernel
theorem dX0_become_10 : decode cX0_become 10 = .ok (.iload_n 2, 1) := by decide +kernel
theorem dX0_become_11 : decode cX0_become 11 = .ok (.iconst 3, 1) := by decide +kernel
theorem dX0_become_12 : decode cX0_become 12 = .ok (.if_icmp .ge 24, 3) := by decide +kernel
theorem dX0_become_15 : decode cX0_become 15 = .ok (.aload_n 0, 1) := by decide +kernel
theorem dX0_become_16 : decode cX0_become 16 = .ok (.getfield 12, 3) := by decide +kernel
theorem dX0_become_19 : decode cX0_become 19 = .ok (.iload_n 2, 1) := by decide +kernel
theorem dX0_become_20 : decode cX0_become 20 = .ok (.aaload, 1) := by decide +kernel
theorem dX0_become_21 : decode cX0_become 21 = .ok (.aload_n 1, 1) := by decide +kernel
theorem dX0_become_22 : decode cX0_become 22 = .ok (.getfield 31, 3) := by decide +kernel
theorem dX0_become_25 : decode cX0_become 25 = .ok (.iload_n 2, 1) := by decide +kernel
theorem dX0_become_26 : decode cX0_become 26 = .ok (.aaload, 1) := by decide +kernel
theorem dX0_become_27 : decode cX0_become 27 = .ok (.invokevirtual 32, 3) := by decide +kernel
theorem dX0_become_30 : decode cX0_become 30 = .ok (.iinc 2 1, 3) := by decide +kernel
theorem dX0_become_33 : decode cX0_become 33 = .ok (.goto (-23), 3) := by decide +kernel
theorem dX0_become_36 : decode cX0_become 36 = .ok (.aload_n 0, 1) := by decide +kernel
theorem dX0_become_37 : decode cX0_become 37 = .ok (.iconst 0, 1) := by decide +kernel
theorem dX0_become_38 : decode cX0_become 38 = .ok (.invokevirtual 36, 3) := by decide +kernel
theorem dX0_become_41 : decode cX0_become 41 = .ok (.return_, 1) := by decide +kernel
theorem dX0_macroOf_0 : decode cX0_macroOf 0 = .ok (.iload_n 1, 1) := by decide +kernel
theorem dX0_macroOf_1 : decode cX0_macroOf 1 = .ok (.ifCond .lt 16, 3) := by decide +kernel
theorem dX0_macroOf_4 : decode cX0_macroOf 4 = .ok (.iload_n 1, 1) := by decide +kernel
theorem dX0_macroOf_5 : decode cX0_macroOf 5 = .ok (.aload_n 0, 1) := by decide +kernel
theorem dX0_macroOf_6 : decode cX0_macroOf 6 = .ok (.getfield 30, 3) := by decide +kernel
theorem dX0_macroOf_9 : decode cX0_macroOf 9 = .ok (.if_icmp .ge 8, 3) := by decide +kernel
theorem dX0_macroOf_12 : decode cX0_macroOf 12 = .ok (.iload_n 1, 1) := by decide +kernel
theorem dX0_macroOf_13 : decode cX0_macroOf 13 = .ok (.iconst 3, 1) := by decide +kernel
theorem dX0_macroOf_14 : decode cX0_macroOf 14 = .ok (.if_icmp .lt 7, 3) := by decide +kernel
theorem dX0_macroOf_17 : decode cX0_macroOf 17 = .ok (.aconst_null, 1) := by decide +kernel
theorem dX0_macroOf_18 : decode cX0_macroOf 18 = .ok (.goto 9, 3) := by decide +kernel
theorem dX0_macroOf_21 : decode cX0_macroOf 21 = .ok (.aload_n 0, 1) := by decide +kernel
theorem dX0_macroOf_22 : decode cX0_macroOf 22 = .ok (.getfield 12, 3) := by decide +kernel
theorem dX0_macroOf_25 : decode cX0_macroOf 25 = .ok (.iload_n 1, 1) := by decide +kernel
theorem dX0_macroOf_26 : decode cX0_macroOf 26 = .ok (.aaload, 1) := by decide +kernel
theorem dX0_macroOf_27 : decode cX0_macroOf 27 = .ok (.areturn, 1) := by decide +kernel
theorem dX0_keysThereAre_0 : decode cX0_keysThereAre 0 = .ok (.bipush 8, 2) := by decide +kernel
theorem dX0_keysThereAre_2 : decode cX0_keysThereAre 2 = .ok (.aload_n 0, 1) := by decide +kernel
theorem dX0_keysThereAre_3 : decode cX0_keysThereAre 3 = .ok (.getfield 30, 3) := by decide +kernel
theorem dX0_keysThereAre_6 : decode cX0_keysThereAre 6 = .ok (.iadd, 1) := by decide +kernel
theorem dX0_keysThereAre_7 : decode cX0_keysThereAre 7 = .ok (.ireturn, 1) := by decide +kernel
theorem dX0_isKey_0 : decode cX0_isKey 0 = .ok (.iload_n 1, 1) := by decide +kernel
theorem dX0_isKey_1 : decode cX0_isKey 1 = .ok (.ifCond .lt 15, 3) := by decide +kernel
theorem dX0_isKey_4 : decode cX0_isKey 4 = .ok (.iload_n 1, 1) := by decide +kernel
theorem dX0_isKey_5 : decode cX0_isKey 5 = .ok (.aload_n 0, 1) := by decide +kernel
theorem dX0_isKey_6 : decode cX0_isKey 6 = .ok (.invokevirtual 40, 3) := by decide +kernel
theorem dX0_isKey_9 : decode cX0_isKey 9 = .ok (.if_icmp .ge 7, 3) := by decide +kernel
theorem dX0_isKey_12 : decode cX0_isKey 12 = .ok (.iconst 1, 1) := by decide +kernel
theorem dX0_isKey_13 : decode cX0_isKey 13 = .ok (.goto 4, 3) := by decide +kernel
theorem dX0_isKey_16 : decode cX0_isKey 16 = .ok (.iconst 0, 1) := by decide +kernel
theorem dX0_isKey_17 : decode cX0_isKey 17 = .ok (.ireturn, 1) := by decide +kernel
theorem dX0_change_0 : decode cX0_change 0 = .ok (.aload_n 0, 1) := by decide +kernel
theorem dX0_change_1 : decode cX0_change 1 = .ok (.iload_n 1, 1) := by decide +kernel
theorem dX0_change_2 : decode cX0_change 2 = .ok (.invokevirtual 44, 3) := by decide +kernel
theorem dX0_change_5 : decode cX0_change 5 = .ok (.astore 4, 2) := by decide +kernel
theorem dX0_change_7 : decode cX0_change 7 = .ok (.aload 4, 2) := by decide +kernel
theorem dX0_change_9 : decode cX0_change 9 = .ok (.ifnull 21, 3) := by decide +kernel
theorem dX0_change_12 : decode cX0_change 12 = .ok (.aload 4, 2) := by decide +kernel
theorem dX0_change_14 : decode cX0_change 14 = .ok (.getfield 48, 3) := by decide +kernel
theorem dX0_change_17 : decode cX0_change 17 = .ok (.iload_n 2, 1) := by decide +kernel
theorem dX0_change_18 : decode cX0_change 18 = .ok (.if_icmp .ne 13, 3) := by decide +kernel
theorem dX0_change_21 : decode cX0_change 21 = .ok (.aload 4, 2) := by decide +kernel
theorem dX0_change_23 : decode cX0_change 23 = .ok (.getfield 51, 3) := by decide +kernel
theorem dX0_change_26 : decode cX0_change 26 = .ok (.iload_n 3, 1) := by decide +kernel
theorem dX0_change_27 : decode cX0_change 27 = .ok (.if_icmp .ne 4, 3) := by decide +kernel
theorem dX0_change_30 : decode cX0_change 30 = .ok (.return_, 1) := by decide +kernel
theorem dX0_change_31 : decode cX0_change 31 = .ok (.aload 4, 2) := by decide +kernel
theorem dX0_change_33 : decode cX0_change 33 = .ok (.iload_n 2, 1) := by decide +kernel
theorem dX0_change_34 : decode cX0_change 34 = .ok (.putfield 48, 3) := by decide +kernel
theorem dX0_change_37 : decode cX0_change 37 = .ok (.aload 4, 2) := by decide +kernel
theorem dX0_change_39 : decode cX0_change 39 = .ok (.iload_n 3, 1) := by decide +kernel
theorem dX0_change_40 : decode cX0_change 40 = .ok (.putfield 51, 3) := by decide +kernel
theorem dX0_change_43 : decode cX0_change 43 = .ok (.aload_n 0, 1) := by decide +kernel
theorem dX0_change_44 : decode cX0_change 44 = .ok (.iload_n 1, 1) := by decide +kernel
theorem dX0_change_45 : decode cX0_change 45 = .ok (.invokevirtual 36, 3) := by decide +kernel
theorem dX0_change_48 : decode cX0_change 48 = .ok (.return_, 1) := by decide +kernel
theorem dX0_forget_0 : decode cX0_forget 0 = .ok (.iload_n 1, 1) := by decide +kernel
theorem dX0_forget_1 : decode cX0_forget 1 = .ok (.ifCond .lt 24, 3) := by decide +kernel
theorem dX0_forget_4 : decode cX0_forget 4 = .ok (.iload_n 1, 1) := by decide +kernel
theorem dX0_forget_5 : decode cX0_forget 5 = .ok (.iconst 3, 1) := by decide +kernel
theorem dX0_forget_6 : decode cX0_forget 6 = .ok (.if_icmp .ge 19, 3) := by decide +kernel
theorem dX0_forget_9 : decode cX0_forget 9 = .ok (.aload_n 0, 1) := by decide +kernel
theorem dX0_forget_10 : decode cX0_forget 10 = .ok (.getfield 20, 3) := by decide +kernel
theorem dX0_forget_13 : decode cX0_forget 13 = .ok (.iload_n 1, 1) := by decide +kernel
theorem dX0_forget_14 : decode cX0_forget 14 = .ok (.sipush 7737, 3) := by decide +kernel
theorem dX0_forget_17 : decode cX0_forget 17 = .ok (.imul, 1) := by decide +kernel
theorem dX0_forget_18 : decode cX0_forget 18 = .ok (.sipush 23211, 3) := by decide +kernel
theorem dX0_forget_21 : decode cX0_forget 21 = .ok (.iconst 0, 1) := by decide +kernel
theorem dX0_forget_22 : decode cX0_forget 22 = .ok (.invokestatic 54, 3) := by decide +kernel
theorem dX0_forget_25 : decode cX0_forget 25 = .ok (.return_, 1) := by decide +kernel
theorem dX0_pressesOf_0 : decode cX0_pressesOf 0 = .ok (.aload_n 0, 1) := by decide +kernel
theorem dX0_pressesOf_1 : decode cX0_pressesOf 1 = .ok (.iload_n 1, 1) := by decide +kernel
theorem dX0_pressesOf_2 : decode cX0_pressesOf 2 = .ok (.invokevirtual 44, 3) := by decide +kernel
theorem dX0_pressesOf_5 : decode cX0_pressesOf 5 = .ok (.astore_n 2, 1) := by decide +kernel
theorem dX0_pressesOf_6 : decode cX0_pressesOf 6 = .ok (.aload_n 2, 1) := by decide +kernel
theorem dX0_pressesOf_7 : decode cX0_pressesOf 7 = .ok (.ifnonnull 5, 3) := by decide +kernel
theorem dX0_pressesOf_10 : decode cX0_pressesOf 10 = .ok (.iconst 0, 1) := by decide +kernel
theorem dX0_pressesOf_11 : decode cX0_pressesOf 11 = .ok (.ireturn, 1) := by decide +kernel
theorem dX0_pressesOf_12 : decode cX0_pressesOf 12 = .ok (.iconst 0, 1) := by decide +kernel
theorem dX0_pressesOf_13 : decode cX0_pressesOf 13 = .ok (.istore_n 3, 1) := by decide +kernel
theorem dX0_pressesOf_14 : decode cX0_pressesOf 14 = .ok (.iconst 0, 1) := by decide +kernel
theorem dX0_pressesOf_15 : decode cX0_pressesOf 15 = .ok (.istore 4, 2) := by decide +kernel
theorem dX0_pressesOf_17 : decode cX0_pressesOf 17 = .ok (.iload 4, 2) := by decide +kernel
theorem dX0_pressesOf_19 : decode cX0_pressesOf 19 = .ok (.aload_n 2, 1) := by decide +kernel
theorem dX0_pressesOf_20 : decode cX0_pressesOf 20 = .ok (.getfield 60, 3) := by decide +kernel
theorem dX0_pressesOf_23 : decode cX0_pressesOf 23 = .ok (.if_icmp .ge 51, 3) := by decide +kernel
theorem dX0_pressesOf_26 : decode cX0_pressesOf 26 = .ok (.aload_n 2, 1) := by decide +kernel
theorem dX0_pressesOf_27 : decode cX0_pressesOf 27 = .ok (.iload 4, 2) := by decide +kernel
theorem dX0_pressesOf_29 : decode cX0_pressesOf 29 = .ok (.invokevirtual 63, 3) := by decide +kernel
theorem dX0_pressesOf_32 : decode cX0_pressesOf 32 = .ok (.istore 5, 2) := by decide +kernel
theorem dX0_pressesOf_34 : decode cX0_pressesOf 34 = .ok (.iload 5, 2) := by decide +kernel
theorem dX0_pressesOf_36 : decode cX0_pressesOf 36 = .ok (.bipush 8, 2) := by decide +kernel
theorem dX0_pressesOf_38 : decode cX0_pressesOf 38 = .ok (.if_icmp .ge 9, 3) := by decide +kernel
theorem dX0_pressesOf_41 : decode cX0_pressesOf 41 = .ok (.iinc 3 1, 3) := by decide +kernel
theorem dX0_pressesOf_44 : decode cX0_pressesOf 44 = .ok (.goto 24, 3) := by decide +kernel
theorem dX0_pressesOf_47 : decode cX0_pressesOf 47 = .ok (.iload 5, 2) := by decide +kernel
theorem dX0_pressesOf_49 : decode cX0_pressesOf 49 = .ok (.bipush 8, 2) := by decide +kernel
theorem dX0_pressesOf_51 : decode cX0_pressesOf 51 = .ok (.isub, 1) := by decide +kernel
theorem dX0_pressesOf_52 : decode cX0_pressesOf 52 = .ok (.iload_n 1, 1) := by decide +kernel
theorem dX0_pressesOf_53 : decode cX0_pressesOf 53 = .ok (.if_icmp .ge 15, 3) := by decide +kernel
theorem dX0_pressesOf_56 : decode cX0_pressesOf 56 = .ok (.iload_n 3, 1) := by decide +kernel
theorem dX0_pressesOf_57 : decode cX0_pressesOf 57 = .ok (.aload_n 0, 1) := by decide +kernel
theorem dX0_pressesOf_58 : decode cX0_pressesOf 58 = .ok (.iload 5, 2) := by decide +kernel
theorem dX0_pressesOf_60 : decode cX0_pressesOf 60 = .ok (.bipush 8, 2) := by decide +kernel
theorem dX0_pressesOf_62 : decode cX0_pressesOf 62 = .ok (.isub, 1) := by decide +kernel
theorem dX0_pressesOf_63 : decode cX0_pressesOf 63 = .ok (.invokevirtual 67, 3) := by decide +kernel
theorem dX0_pressesOf_66 : decode cX0_pressesOf 66 = .ok (.iadd, 1) := by decide +kernel
theorem dX0_pressesOf_67 : decode cX0_pressesOf 67 = .ok (.istore_n 3, 1) := by decide +kernel
theorem dX0_pressesOf_68 : decode cX0_pressesOf 68 = .ok (.iinc 4 1, 3) := by decide +kernel
theorem dX0_pressesOf_71 : decode cX0_pressesOf 71 = .ok (.goto (-54), 3) := by decide +kernel
theorem dX0_pressesOf_74 : decode cX0_pressesOf 74 = .ok (.iload_n 3, 1) := by decide +kernel
theorem dX0_pressesOf_75 : decode cX0_pressesOf 75 = .ok (.aload_n 2, 1) := by decide +kernel
theorem dX0_pressesOf_76 : decode cX0_pressesOf 76 = .ok (.invokevirtual 70, 3) := by decide +kernel
theorem dX0_pressesOf_79 : decode cX0_pressesOf 79 = .ok (.imul, 1) := by decide +kernel
theorem dX0_pressesOf_80 : decode cX0_pressesOf 80 = .ok (.ireturn, 1) := by decide +kernel
theorem dX0_lineOf_0 : decode cX0_lineOf 0 = .ok (.iload_n 0, 1) := by decide +kernel
theorem dX0_lineOf_1 : decode cX0_lineOf 1 = .ok (.sipush 8191, 3) := by decide +kernel
theorem dX0_lineOf_4 : decode cX0_lineOf 4 = .ok (.iand, 1) := by decide +kernel
theorem dX0_lineOf_5 : decode cX0_lineOf 5 = .ok (.ireturn, 1) := by decide +kernel
theorem dX0_bumpsOf_0 : decode cX0_bumpsOf 0 = .ok (.iload_n 0, 1) := by decide +kernel
theorem dX0_bumpsOf_1 : decode cX0_bumpsOf 1 = .ok (.bipush 13, 2) := by decide +kernel
theorem dX0_bumpsOf_3 : decode cX0_bumpsOf 3 = .ok (.ishr, 1) := by decide +kernel
theorem dX0_bumpsOf_4 : decode cX0_bumpsOf 4 = .ok (.ireturn, 1) := by decide +kernel
theorem dX0_lineAfter_0 : decode cX0_lineAfter 0 = .ok (.aload_n 0, 1) := by decide +kernel
theorem dX0_lineAfter_1 : decode cX0_lineAfter 1 = .ok (.iload_n 1, 1) := by decide +kernel
theorem dX0_lineAfter_2 : decode cX0_lineAfter 2 = .ok (.iload_n 2, 1) := by decide +kernel
theorem dX0_lineAfter_3 : decode cX0_lineAfter 3 = .ok (.invokevirtual 73, 3) := by decide +kernel
theorem dX0_lineAfter_6 : decode cX0_lineAfter 6 = .ok (.invokestatic 77, 3) := by decide +kernel
theorem dX0_lineAfter_9 : decode cX0_lineAfter 9 = .ok (.ireturn, 1) := by decide +kernel
theorem dX0_effectOf_0 : decode cX0_effectOf 0 = .ok (.iload_n 2, 1) := by decide +kernel
theorem dX0_effectOf_1 : decode cX0_effectOf 1 = .ok (.bipush 8, 2) := by decide +kernel
theorem dX0_effectOf_3 : decode cX0_effectOf 3 = .ok (.if_icmp .ge 24, 3) := by decide +kernel
theorem dX0_effectOf_6 : decode cX0_effectOf 6 = .ok (.iload_n 1, 1) := by decide +kernel
theorem dX0_effectOf_7 : decode cX0_effectOf 7 = .ok (.iload_n 2, 1) := by decide +kernel
theorem dX0_effectOf_8 : decode cX0_effectOf 8 = .ok (.invokestatic 80, 3) := by decide +kernel
theorem dX0_effectOf_11 : decode cX0_effectOf 11 = .ok (.istore_n 3, 1) := by decide +kernel
theorem dX0_effectOf_12 : decode cX0_effectOf 12 = .ok (.iload_n 3, 1) := by decide +kernel
theorem dX0_effectOf_13 : decode cX0_effectOf 13 = .ok (.iload_n 1, 1) := by decide +kernel
theorem dX0_effectOf_14 : decode cX0_effectOf 14 = .ok (.if_icmp .ne 11, 3) := by decide +kernel
theorem dX0_effectOf_17 : decode cX0_effectOf 17 = .ok (.sipush 8192, 3) := by decide +kernel
theorem dX0_effectOf_20 : decode cX0_effectOf 20 = .ok (.iload_n 1, 1) := by decide +kernel
theorem dX0_effectOf_21 : decode cX0_effectOf 21 = .ok (.ior, 1) := by decide +kernel
theorem dX0_effectOf_22 : decode cX0_effectOf 22 = .ok (.goto 4, 3) := by decide +kernel
theorem dX0_effectOf_25 : decode cX0_effectOf 25 = .ok (.iload_n 3, 1) := by decide +kernel
theorem dX0_effectOf_26 : decode cX0_effectOf 26 = .ok (.ireturn, 1) := by decide +kernel
theorem dX0_effectOf_27 : decode cX0_effectOf 27 = .ok (.iload_n 2, 1) := by decide +kernel
theorem dX0_effectOf_28 : decode cX0_effectOf 28 = .ok (.bipush 8, 2) := by decide +kernel
theorem dX0_effectOf_30 : decode cX0_effectOf 30 = .ok (.isub, 1) := by decide +kernel
theorem dX0_effectOf_31 : decode cX0_effectOf 31 = .ok (.istore_n 3, 1) := by decide +kernel
theorem dX0_effectOf_32 : decode cX0_effectOf 32 = .ok (.aload_n 0, 1) := by decide +kernel
theorem dX0_effectOf_33 : decode cX0_effectOf 33 = .ok (.iload_n 3, 1) := by decide +kernel
theorem dX0_effectOf_34 : decode cX0_effectOf 34 = .ok (.invokevirtual 44, 3) := by decide +kernel
theorem dX0_effectOf_37 : decode cX0_effectOf 37 = .ok (.astore 4, 2) := by decide +kernel
theorem dX0_effectOf_39 : decode cX0_effectOf 39 = .ok (.aload 4, 2) := by decide +kernel
theorem dX0_effectOf_41 : decode cX0_effectOf 41 = .ok (.ifnull 10, 3) := by decide +kernel
theorem dX0_effectOf_44 : decode cX0_effectOf 44 = .ok (.iload_n 1, 1) := by decide +kernel
theorem dX0_effectOf_45 : decode cX0_effectOf 45 = .ok (.invokestatic 83, 3) := by decide +kernel
theorem dX0_effectOf_48 : decode cX0_effectOf 48 = .ok (.ifCond .ne 5, 3) := by decide +kernel
theorem dX0_effectOf_51 : decode cX0_effectOf 51 = .ok (.iload_n 1, 1) := by decide +kernel
theorem dX0_effectOf_52 : decode cX0_effectOf 52 = .ok (.ireturn, 1) := by decide +kernel
theorem dX0_effectOf_53 : decode cX0_effectOf 53 = .ok (.iload_n 3, 1) := by decide +kernel
theorem dX0_effectOf_54 : decode cX0_effectOf 54 = .ok (.sipush 7737, 3) := by decide +kernel
theorem dX0_effectOf_57 : decode cX0_effectOf 57 = .ok (.imul, 1) := by decide +kernel
theorem dX0_effectOf_58 : decode cX0_effectOf 58 = .ok (.iload_n 1, 1) := by decide +kernel
theorem dX0_effectOf_59 : decode cX0_effectOf 59 = .ok (.iadd, 1) := by decide +kernel
theorem dX0_effectOf_60 : decode cX0_effectOf 60 = .ok (.istore 5, 2) := by decide +kernel
theorem dX0_effectOf_62 : decode cX0_effectOf 62 = .ok (.aload_n 0, 1) := by decide +kernel
theorem dX0_effectOf_63 : decode cX0_effectOf 63 = .ok (.getfield 20, 3) := by decide +kernel
theorem dX0_effectOf_66 : decode cX0_effectOf 66 = .ok (.iload 5, 2) := by decide +kernel
theorem dX0_effectOf_68 : decode cX0_effectOf 68 = .ok (.iaload, 1) := by decide +kernel
theorem dX0_effectOf_69 : decode cX0_effectOf 69 = .ok (.ifCond .ne 20, 3) := by decide +kernel
theorem dX0_effectOf_72 : decode cX0_effectOf 72 = .ok (.aload_n 0, 1) := by decide +kernel
theorem dX0_effectOf_73 : decode cX0_effectOf 73 = .ok (.getfield 20, 3) := by decide +kernel
theorem dX0_effectOf_76 : decode cX0_effectOf 76 = .ok (.iload 5, 2) := by decide +kernel
theorem dX0_effectOf_78 : decode cX0_effectOf 78 = .ok (.iconst 1, 1) := by decide +kernel
theorem dX0_effectOf_79 : decode cX0_effectOf 79 = .ok (.aload_n 0, 1) := by decide +kernel
theorem dX0_effectOf_80 : decode cX0_effectOf 80 = .ok (.iload_n 1, 1) := by decide +kernel
theorem dX0_effectOf_81 : decode cX0_effectOf 81 = .ok (.aload 4, 2) := by decide +kernel
theorem dX0_effectOf_83 : decode cX0_effectOf 83 = .ok (.iload_n 3, 1) := by decide +kernel
theorem dX0_effectOf_84 : decode cX0_effectOf 84 = .ok (.invokevirtual 87, 3) := by decide +kernel
theorem dX0_effectOf_87 : decode cX0_effectOf 87 = .ok (.iadd, 1) := by decide +kernel
theorem dX0_effectOf_88 : decode cX0_effectOf 88 = .ok (.iastore, 1) := by decide +kernel
theorem dX0_effectOf_89 : decode cX0_effectOf 89 = .ok (.aload_n 0, 1) := by decide +kernel
theorem dX0_effectOf_90 : decode cX0_effectOf 90 = .ok (.getfield 20, 3) := by decide +kernel
theorem dX0_effectOf_93 : decode cX0_effectOf 93 = .ok (.iload 5, 2) := by decide +kernel
theorem dX0_effectOf_95 : decode cX0_effectOf 95 = .ok (.iaload, 1) := by decide +kernel
theorem dX0_effectOf_96 : decode cX0_effectOf 96 = .ok (.iconst 1, 1) := by decide +kernel
theorem dX0_effectOf_97 : decode cX0_effectOf 97 = .ok (.isub, 1) := by decide +kernel
theorem dX0_effectOf_98 : decode cX0_effectOf 98 = .ok (.ireturn, 1) := by decide +kernel
theorem dX0_played_0 : decode cX0_played 0 = .ok (.iload_n 1, 1) := by decide +kernel
theorem dX0_played_1 : decode cX0_played 1 = .ok (.istore 4, 2) := by decide +kernel
theorem dX0_played_3 : decode cX0_played 3 = .ok (.iconst 0, 1) := by decide +kernel
theorem dX0_played_4 : decode cX0_played 4 = .ok (.istore 5, 2) := by decide +kernel
theorem dX0_played_6 : decode cX0_played 6 = .ok (.aload_n 2, 1) := by decide +kernel
theorem dX0_played_7 : decode cX0_played 7 = .ok (.invokevirtual 70, 3) := by decide +kernel
theorem dX0_played_10 : decode cX0_played 10 = .ok (.istore 6, 2) := by decide +kernel
theorem dX0_played_12 : decode cX0_played 12 = .ok (.iconst 0, 1) := by decide +kernel
theorem dX0_played_13 : decode cX0_played 13 = .ok (.istore 7, 2) := by decide +kernel
theorem dX0_played_15 : decode cX0_played 15 = .ok (.iload 7, 2) := by decide +kernel
theorem dX0_played_17 : decode cX0_played 17 = .ok (.iload 6, 2) := by decide +kernel
theorem dX0_played_19 : decode cX0_played 19 = .ok (.if_icmp .ge 71, 3) := by decide +kernel
theorem dX0_played_22 : decode cX0_played 22 = .ok (.iconst 0, 1) := by decide +kernel
theorem dX0_played_23 : decode cX0_played 23 = .ok (.istore 8, 2) := by decide +kernel
theorem dX0_played_25 : decode cX0_played 25 = .ok (.iload 8, 2) := by decide +kernel
theorem dX0_played_27 : decode cX0_played 27 = .ok (.aload_n 2, 1) := by decide +kernel
theorem dX0_played_28 : decode cX0_played 28 = .ok (.getfield 60, 3) := by decide +kernel
theorem dX0_played_31 : decode cX0_played 31 = .ok (.if_icmp .ge 53, 3) := by decide +kernel
theorem dX0_played_34 : decode cX0_played 34 = .ok (.aload_n 2, 1) := by decide +kernel
theorem dX0_played_35 : decode cX0_played 35 = .ok (.iload 8, 2) := by decide +kernel
theorem dX0_played_37 : decode cX0_played 37 = .ok (.invokevirtual 63, 3) := by decide +kernel
theorem dX0_played_40 : decode cX0_played 40 = .ok (.istore 9, 2) := by decide +kernel
theorem dX0_played_42 : decode cX0_played 42 = .ok (.iload 9, 2) := by decide +kernel
theorem dX0_played_44 : decode cX0_played 44 = .ok (.bipush 8, 2) := by decide +kernel
theorem dX0_played_46 : decode cX0_played 46 = .ok (.iload_n 3, 1) := by decide +kernel
theorem dX0_played_47 : decode cX0_played 47 = .ok (.iadd, 1) := by decide +kernel
theorem dX0_played_48 : decode cX0_played 48 = .ok (.if_icmp .ge 30, 3) := by decide +kernel
theorem dX0_played_51 : decode cX0_played 51 = .ok (.aload_n 0, 1) := by decide +kernel
theorem dX0_played_52 : decode cX0_played 52 = .ok (.iload 4, 2) := by decide +kernel
theorem dX0_played_54 : decode cX0_played 54 = .ok (.iload 9, 2) := by decide +kernel
theorem dX0_played_56 : decode cX0_played 56 = .ok (.invokevirtual 73, 3) := by decide +kernel
theorem dX0_played_59 : decode cX0_played 59 = .ok (.istore 10, 2) := by decide +kernel
theorem dX0_played_61 : decode cX0_played 61 = .ok (.iload 5, 2) := by decide +kernel
theorem dX0_played_63 : decode cX0_played 63 = .ok (.iload 10, 2) := by decide +kernel
theorem dX0_played_65 : decode cX0_played 65 = .ok (.invokestatic 91, 3) := by decide +kernel
theorem dX0_played_68 : decode cX0_played 68 = .ok (.iadd, 1) := by decide +kernel
theorem dX0_played_69 : decode cX0_played 69 = .ok (.istore 5, 2) := by decide +kernel
theorem dX0_played_71 : decode cX0_played 71 = .ok (.iload 10, 2) := by decide +kernel
theorem dX0_played_73 : decode cX0_played 73 = .ok (.invokestatic 77, 3) := by decide +kernel
theorem dX0_played_76 : decode cX0_played 76 = .ok (.istore 4, 2) := by decide +kernel
theorem dX0_played_78 : decode cX0_played 78 = .ok (.iinc 8 1, 3) := by decide +kernel
theorem dX0_played_81 : decode cX0_played 81 = .ok (.goto (-56), 3) := by decide +kernel
theorem dX0_played_84 : decode cX0_played 84 = .ok (.iinc 7 1, 3) := by decide +kernel
theorem dX0_played_87 : decode cX0_played 87 = .ok (.goto (-72), 3) := by decide +kernel
theorem dX0_played_90 : decode cX0_played 90 = .ok (.iload 5, 2) := by decide +kernel
theorem dX0_played_92 : decode cX0_played 92 = .ok (.bipush 13, 2) := by decide +kernel
theorem dX0_played_94 : decode cX0_played 94 = .ok (.ishl, 1) := by decide +kernel
theorem dX0_played_95 : decode cX0_played 95 = .ok (.iload 4, 2) := by decide +kernel
theorem dX0_played_97 : decode cX0_played 97 = .ok (.ior, 1) := by decide +kernel
theorem dX0_played_98 : decode cX0_played 98 = .ok (.ireturn, 1) := by decide +kernel
theorem dX1_isLine_0 : decode cX1_isLine 0 = .ok (.iload_n 0, 1) := by decide +kernel
theorem dX1_isLine_1 : decode cX1_isLine 1 = .ok (.ifCond .lt 14, 3) := by decide +kernel
theorem dX1_isLine_4 : decode cX1_isLine 4 = .ok (.iload_n 0, 1) := by decide +kernel
theorem dX1_isLine_5 : decode cX1_isLine 5 = .ok (.sipush 7737, 3) := by decide +kernel
theorem dX1_isLine_8 : decode cX1_isLine 8 = .ok (.if_icmp .ge 7, 3) := by decide +kernel
theorem dX1_isLine_11 : decode cX1_isLine 11 = .ok (.iconst 1, 1) := by decide +kernel
theorem dX1_isLine_12 : decode cX1_isLine 12 = .ok (.goto 4, 3) := by decide +kernel
theorem dX1_isLine_15 : decode cX1_isLine 15 = .ok (.iconst 0, 1) := by decide +kernel
theorem dX1_isLine_16 : decode cX1_isLine 16 = .ok (.ireturn, 1) := by decide +kernel
theorem dX1_of_0 : decode cX1_of 0 = .ok (.iload_n 0, 1) := by decide +kernel
theorem dX1_of_1 : decode cX1_of 1 = .ok (.ifCond .lt 8, 3) := by decide +kernel
theorem dX1_of_4 : decode cX1_of 4 = .ok (.iload_n 0, 1) := by decide +kernel
theorem dX1_of_5 : decode cX1_of 5 = .ok (.iconst 5, 1) := by decide +kernel
theorem dX1_of_6 : decode cX1_of 6 = .ok (.if_icmp .le 5, 3) := by decide +kernel
theorem dX1_of_9 : decode cX1_of 9 = .ok (.iconst 0, 1) := by decide +kernel
theorem dX1_of_10 : decode cX1_of 10 = .ok (.ireturn, 1) := by decide +kernel
theorem dX1_of_11 : decode cX1_of 11 = .ok (.getstatic 11, 3) := by decide +kernel
theorem dX1_of_14 : decode cX1_of 14 = .ok (.iload_n 0, 1) := by decide +kernel
theorem dX1_of_15 : decode cX1_of 15 = .ok (.iaload, 1) := by decide +kernel
theorem dX1_of_16 : decode cX1_of 16 = .ok (.iload_n 1, 1) := by decide +kernel
theorem dX1_of_17 : decode cX1_of 17 = .ok (.iconst 2, 1) := by decide +kernel
theorem dX1_of_18 : decode cX1_of 18 = .ok (.iload_n 0, 1) := by decide +kernel
theorem dX1_of_19 : decode cX1_of 19 = .ok (.imul, 1) := by decide +kernel
theorem dX1_of_20 : decode cX1_of 20 = .ok (.ishl, 1) := by decide +kernel
theorem dX1_of_21 : decode cX1_of 21 = .ok (.iadd, 1) := by decide +kernel
theorem dX1_of_22 : decode cX1_of 22 = .ok (.iload_n 2, 1) := by decide +kernel
theorem dX1_of_23 : decode cX1_of 23 = .ok (.iadd, 1) := by decide +kernel
theorem dX1_of_24 : decode cX1_of 24 = .ok (.ireturn, 1) := by decide +kernel
theorem dX1_countOf_0 : decode cX1_countOf 0 = .ok (.iconst 5, 1) := by decide +kernel
theorem dX1_countOf_1 : decode cX1_countOf 1 = .ok (.istore_n 1, 1) := by decide +kernel
theorem dX1_countOf_2 : decode cX1_countOf 2 = .ok (.iload_n 1, 1) := by decide +kernel
theorem dX1_countOf_3 : decode cX1_countOf 3 = .ok (.ifCond .le 18, 3) := by decide +kernel
theorem dX1_countOf_6 : decode cX1_countOf 6 = .ok (.iload_n 0, 1) := by decide +kernel
theorem dX1_countOf_7 : decode cX1_countOf 7 = .ok (.getstatic 11, 3) := by decide +kernel
theorem dX1_countOf_10 : decode cX1_countOf 10 = .ok (.iload_n 1, 1) := by decide +kernel
theorem dX1_countOf_11 : decode cX1_countOf 11 = .ok (.iaload, 1) := by decide +kernel
theorem dX1_countOf_12 : decode cX1_countOf 12 = .ok (.if_icmp .ge 9, 3) := by decide +kernel
theorem dX1_countOf_15 : decode cX1_countOf 15 = .ok (.iinc 1 (-1), 3) := by decide +kernel
theorem dX1_countOf_18 : decode cX1_countOf 18 = .ok (.goto (-16), 3) := by decide +kernel
theorem dX1_countOf_21 : decode cX1_countOf 21 = .ok (.iload_n 1, 1) := by decide +kernel
theorem dX1_countOf_22 : decode cX1_countOf 22 = .ok (.ireturn, 1) := by decide +kernel
theorem dX1_cursorOf_0 : decode cX1_cursorOf 0 = .ok (.iload_n 0, 1) := by decide +kernel
theorem dX1_cursorOf_1 : decode cX1_cursorOf 1 = .ok (.invokestatic 15, 3) := by decide +kernel
theorem dX1_cursorOf_4 : decode cX1_cursorOf 4 = .ok (.istore_n 1, 1) := by decide +kernel
theorem dX1_cursorOf_5 : decode cX1_cursorOf 5 = .ok (.iload_n 0, 1) := by decide +kernel
theorem dX1_cursorOf_6 : decode cX1_cursorOf 6 = .ok (.getstatic 11, 3) := by decide +kernel
theorem dX1_cursorOf_9 : decode cX1_cursorOf 9 = .ok (.iload_n 1, 1) := by decide +kernel
theorem dX1_cursorOf_10 : decode cX1_cursorOf 10 = .ok (.iaload, 1) := by decide +kernel
theorem dX1_cursorOf_11 : decode cX1_cursorOf 11 = .ok (.isub, 1) := by decide +kernel
theorem dX1_cursorOf_12 : decode cX1_cursorOf 12 = .ok (.iconst 2, 1) := by decide +kernel
theorem dX1_cursorOf_13 : decode cX1_cursorOf 13 = .ok (.iload_n 1, 1) := by decide +kernel
theorem dX1_cursorOf_14 : decode cX1_cursorOf 14 = .ok (.imul, 1) := by decide +kernel
theorem dX1_cursorOf_15 : decode cX1_cursorOf 15 = .ok (.ishr, 1) := by decide +kernel
theorem dX1_cursorOf_16 : decode cX1_cursorOf 16 = .ok (.ireturn, 1) := by decide +kernel
theorem dX1_letterAt_0 : decode cX1_letterAt 0 = .ok (.iload_n 0, 1) := by decide +kernel
theorem dX1_letterAt_1 : decode cX1_letterAt 1 = .ok (.invokestatic 15, 3) := by decide +kernel
theorem dX1_letterAt_4 : decode cX1_letterAt 4 = .ok (.istore_n 2, 1) := by decide +kernel
theorem dX1_letterAt_5 : decode cX1_letterAt 5 = .ok (.iload_n 0, 1) := by decide +kernel
theorem dX1_letterAt_6 : decode cX1_letterAt 6 = .ok (.getstatic 11, 3) := by decide +kernel
theorem dX1_letterAt_9 : decode cX1_letterAt 9 = .ok (.iload_n 2, 1) := by decide +kernel
theorem dX1_letterAt_10 : decode cX1_letterAt 10 = .ok (.iaload, 1) := by decide +kernel
theorem dX1_letterAt_11 : decode cX1_letterAt 11 = .ok (.isub, 1) := by decide +kernel
theorem dX1_letterAt_12 : decode cX1_letterAt 12 = .ok (.iconst 2, 1) := by decide +kernel
theorem dX1_letterAt_13 : decode cX1_letterAt 13 = .ok (.iload_n 2, 1) := by decide +kernel
theorem dX1_letterAt_14 : decode cX1_letterAt 14 = .ok (.iconst 1, 1) := by decide +kernel
theorem dX1_letterAt_15 : decode cX1_letterAt 15 = .ok (.isub, 1) := by decide +kernel
theorem dX1_letterAt_16 : decode cX1_letterAt 16 = .ok (.iload_n 1, 1) := by decide +kernel
theorem dX1_letterAt_17 : decode cX1_letterAt 17 = .ok (.isub, 1) := by decide +kernel
theorem dX1_letterAt_18 : decode cX1_letterAt 18 = .ok (.imul, 1) := by decide +kernel
theorem dX1_letterAt_19 : decode cX1_letterAt 19 = .ok (.ishr, 1) := by decide +kernel
theorem dX1_letterAt_20 : decode cX1_letterAt 20 = .ok (.iconst 3, 1) := by decide +kernel
theorem dX1_letterAt_21 : decode cX1_letterAt 21 = .ok (.iand, 1) := by decide +kernel
theorem dX1_letterAt_22 : decode cX1_letterAt 22 = .ok (.ireturn, 1) := by decide +kernel
theorem dX1_digitsOf_0 : decode cX1_digitsOf 0 = .ok (.iload_n 0, 1) := by decide +kernel
theorem dX1_digitsOf_1 : decode cX1_digitsOf 1 = .ok (.invokestatic 15, 3) := by decide +kernel
theorem dX1_digitsOf_4 : decode cX1_digitsOf 4 = .ok (.istore_n 1, 1) := by decide +kernel
theorem dX1_digitsOf_5 : decode cX1_digitsOf 5 = .ok (.iconst 0, 1) := by decide +kernel
theorem dX1_digitsOf_6 : decode cX1_digitsOf 6 = .ok (.istore_n 2, 1) := by decide +kernel
theorem dX1_digitsOf_7 : decode cX1_digitsOf 7 = .ok (.iconst 0, 1) := by decide +kernel
theorem dX1_digitsOf_8 : decode cX1_digitsOf 8 = .ok (.istore_n 3, 1) := by decide +kernel
theorem dX1_digitsOf_9 : decode cX1_digitsOf 9 = .ok (.iload_n 3, 1) := by decide +kernel
theorem dX1_digitsOf_10 : decode cX1_digitsOf 10 = .ok (.iload_n 1, 1) := by decide +kernel
theorem dX1_digitsOf_11 : decode cX1_digitsOf 11 = .ok (.if_icmp .ge 22, 3) := by decide +kernel
theorem dX1_digitsOf_14 : decode cX1_digitsOf 14 = .ok (.iload_n 2, 1) := by decide +kernel
theorem dX1_digitsOf_15 : decode cX1_digitsOf 15 = .ok (.bipush 10, 2) := by decide +kernel
theorem dX1_digitsOf_17 : decode cX1_digitsOf 17 = .ok (.imul, 1) := by decide +kernel
theorem dX1_digitsOf_18 : decode cX1_digitsOf 18 = .ok (.iload_n 0, 1) := by decide +kernel
theorem dX1_digitsOf_19 : decode cX1_digitsOf 19 = .ok (.iload_n 3, 1) := by decide +kernel
theorem dX1_digitsOf_20 : decode cX1_digitsOf 20 = .ok (.invokestatic 19, 3) := by decide +kernel
theorem dX1_digitsOf_23 : decode cX1_digitsOf 23 = .ok (.iadd, 1) := by decide +kernel
theorem dX1_digitsOf_24 : decode cX1_digitsOf 24 = .ok (.iconst 1, 1) := by decide +kernel
theorem dX1_digitsOf_25 : decode cX1_digitsOf 25 = .ok (.iadd, 1) := by decide +kernel
theorem dX1_digitsOf_26 : decode cX1_digitsOf 26 = .ok (.istore_n 2, 1) := by decide +kernel
theorem dX1_digitsOf_27 : decode cX1_digitsOf 27 = .ok (.iinc 3 1, 3) := by decide +kernel
theorem dX1_digitsOf_30 : decode cX1_digitsOf 30 = .ok (.goto (-21), 3) := by decide +kernel
theorem dX1_digitsOf_33 : decode cX1_digitsOf 33 = .ok (.iload_n 2, 1) := by decide +kernel
theorem dX1_digitsOf_34 : decode cX1_digitsOf 34 = .ok (.ireturn, 1) := by decide +kernel
theorem dX1_after_0 : decode cX1_after 0 = .ok (.iload_n 0, 1) := by decide +kernel
theorem dX1_after_1 : decode cX1_after 1 = .ok (.invokestatic 15, 3) := by decide +kernel
theorem dX1_after_4 : decode cX1_after 4 = .ok (.istore_n 2, 1) := by decide +kernel
theorem dX1_after_5 : decode cX1_after 5 = .ok (.iload_n 0, 1) := by decide +kernel
theorem dX1_after_6 : decode cX1_after 6 = .ok (.getstatic 11, 3) := by decide +kernel
theorem dX1_after_9 : decode cX1_after 9 = .ok (.iload_n 2, 1) := by decide +kernel
theorem dX1_after_10 : decode cX1_after 10 = .ok (.iaload, 1) := by decide +kernel
theorem dX1_after_11 : decode cX1_after 11 = .ok (.isub, 1) := by decide +kernel
theorem dX1_after_12 : decode cX1_after 12 = .ok (.iconst 2, 1) := by decide +kernel
theorem dX1_after_13 : decode cX1_after 13 = .ok (.iload_n 2, 1) := by decide +kernel
theorem dX1_after_14 : decode cX1_after 14 = .ok (.imul, 1) := by decide +kernel
theorem dX1_after_15 : decode cX1_after 15 = .ok (.ishr, 1) := by decide +kernel
theorem dX1_after_16 : decode cX1_after 16 = .ok (.istore_n 3, 1) := by decide +kernel
theorem dX1_after_17 : decode cX1_after 17 = .ok (.iload_n 0, 1) := by decide +kernel
theorem dX1_after_18 : decode cX1_after 18 = .ok (.getstatic 11, 3) := by decide +kernel
theorem dX1_after_21 : decode cX1_after 21 = .ok (.iload_n 2, 1) := by decide +kernel
theorem dX1_after_22 : decode cX1_after 22 = .ok (.iaload, 1) := by decide +kernel
theorem dX1_after_23 : decode cX1_after 23 = .ok (.isub, 1) := by decide +kernel
theorem dX1_after_24 : decode cX1_after 24 = .ok (.iconst 1, 1) := by decide +kernel
theorem dX1_after_25 : decode cX1_after 25 = .ok (.iconst 2, 1) := by decide +kernel
theorem dX1_after_26 : decode cX1_after 26 = .ok (.iload_n 2, 1) := by decide +kernel
theorem dX1_after_27 : decode cX1_after 27 = .ok (.imul, 1) := by decide +kernel
theorem dX1_after_28 : decode cX1_after 28 = .ok (.ishl, 1) := by decide +kernel
theorem dX1_after_29 : decode cX1_after 29 = .ok (.iconst 1, 1) := by decide +kernel
theorem dX1_after_30 : decode cX1_after 30 = .ok (.isub, 1) := by decide +kernel
theorem dX1_after_31 : decode cX1_after 31 = .ok (.iand, 1) := by decide +kernel
theorem dX1_after_32 : decode cX1_after 32 = .ok (.istore 4, 2) := by decide +kernel
theorem dX1_after_34 : decode cX1_after 34 = .ok (.iload_n 1, 1) := by decide +kernel
theorem dX1_after_35 : decode cX1_after 35 = .ok (.iconst 4, 1) := by decide +kernel
theorem dX1_after_36 : decode cX1_after 36 = .ok (.if_icmp .ge 16, 3) := by decide +kernel
theorem dX1_after_39 : decode cX1_after 39 = .ok (.iload_n 2, 1) := by decide +kernel
theorem dX1_after_40 : decode cX1_after 40 = .ok (.iconst 5, 1) := by decide +kernel
theorem dX1_after_41 : decode cX1_after 41 = .ok (.if_icmp .ne 7, 3) := by decide +kernel
theorem dX1_after_44 : decode cX1_after 44 = .ok (.iconst 1, 1) := by decide +kernel
theorem dX1_after_45 : decode cX1_after 45 = .ok (.goto 34, 3) := by decide +kernel
theorem dX1_after_48 : decode cX1_after 48 = .ok (.iconst 0, 1) := by decide +kernel
theorem dX1_after_49 : decode cX1_after 49 = .ok (.goto 30, 3) := by decide +kernel
theorem dX1_after_52 : decode cX1_after 52 = .ok (.iload_n 1, 1) := by decide +kernel
theorem dX1_after_53 : decode cX1_after 53 = .ok (.iconst 5, 1) := by decide +kernel
theorem dX1_after_54 : decode cX1_after 54 = .ok (.if_icmp .ne 16, 3) := by decide +kernel
theorem dX1_after_57 : decode cX1_after 57 = .ok (.iload_n 3, 1) := by decide +kernel
theorem dX1_after_58 : decode cX1_after 58 = .ok (.iload_n 2, 1) := by decide +kernel
theorem dX1_after_59 : decode cX1_after 59 = .ok (.if_icmp .ne 7, 3) := by decide +kernel
theorem dX1_after_62 : decode cX1_after 62 = .ok (.iconst 1, 1) := by decide +kernel
theorem dX1_after_63 : decode cX1_after 63 = .ok (.goto 16, 3) := by decide +kernel
theorem dX1_after_66 : decode cX1_after 66 = .ok (.iconst 0, 1) := by decide +kernel
theorem dX1_after_67 : decode cX1_after 67 = .ok (.goto 12, 3) := by decide +kernel
theorem dX1_after_70 : decode cX1_after 70 = .ok (.iload_n 3, 1) := by decide +kernel
theorem dX1_after_71 : decode cX1_after 71 = .ok (.ifCond .ne 7, 3) := by decide +kernel
theorem dX1_after_74 : decode cX1_after 74 = .ok (.iconst 1, 1) := by decide +kernel
theorem dX1_after_75 : decode cX1_after 75 = .ok (.goto 4, 3) := by decide +kernel
theorem dX1_after_78 : decode cX1_after 78 = .ok (.iconst 0, 1) := by decide +kernel
theorem dX1_after_79 : decode cX1_after 79 = .ok (.istore 5, 2) := by decide +kernel
theorem dX1_after_81 : decode cX1_after 81 = .ok (.iload 5, 2) := by decide +kernel
theorem dX1_after_83 : decode cX1_after 83 = .ok (.ifCond .eq 5, 3) := by decide +kernel
theorem dX1_after_86 : decode cX1_after 86 = .ok (.iload_n 0, 1) := by decide +kernel
theorem dX1_after_87 : decode cX1_after 87 = .ok (.ireturn, 1) := by decide +kernel
theorem dX1_after_88 : decode cX1_after 88 = .ok (.iload_n 1, 1) := by decide +kernel
theorem dX1_after_89 : decode cX1_after 89 = .ok (.tableswitch 77 4 7 #[31, 41, 51, 69], 31) := by decide +kernel
theorem dX1_after_120 : decode cX1_after 120 = .ok (.iload_n 2, 1) := by decide +kernel
theorem dX1_after_121 : decode cX1_after 121 = .ok (.iload_n 3, 1) := by decide +kernel
theorem dX1_after_122 : decode cX1_after 122 = .ok (.iconst 1, 1) := by decide +kernel
theorem dX1_after_123 : decode cX1_after 123 = .ok (.isub, 1) := by decide +kernel
theorem dX1_after_124 : decode cX1_after 124 = .ok (.iload 4, 2) := by decide +kernel
theorem dX1_after_126 : decode cX1_after 126 = .ok (.invokestatic 23, 3) := by decide +kernel
theorem dX1_after_129 : decode cX1_after 129 = .ok (.ireturn, 1) := by decide +kernel
theorem dX1_after_130 : decode cX1_after 130 = .ok (.iload_n 2, 1) := by decide +kernel
theorem dX1_after_131 : decode cX1_after 131 = .ok (.iload_n 3, 1) := by decide +kernel
theorem dX1_after_132 : decode cX1_after 132 = .ok (.iconst 1, 1) := by decide +kernel
theorem dX1_after_133 : decode cX1_after 133 = .ok (.iadd, 1) := by decide +kernel
theorem dX1_after_134 : decode cX1_after 134 = .ok (.iload 4, 2) := by decide +kernel
theorem dX1_after_136 : decode cX1_after 136 = .ok (.invokestatic 23, 3) := by decide +kernel
theorem dX1_after_139 : decode cX1_after 139 = .ok (.ireturn, 1) := by decide +kernel
theorem dX1_after_140 : decode cX1_after 140 = .ok (.iload_n 2, 1) := by decide +kernel
theorem dX1_after_141 : decode cX1_after 141 = .ok (.iconst 1, 1) := by decide +kernel
theorem dX1_after_142 : decode cX1_after 142 = .ok (.isub, 1) := by decide +kernel
theorem dX1_after_143 : decode cX1_after 143 = .ok (.iload_n 3, 1) := by decide +kernel
theorem dX1_after_144 : decode cX1_after 144 = .ok (.iconst 1, 1) := by decide +kernel
theorem dX1_after_145 : decode cX1_after 145 = .ok (.isub, 1) := by decide +kernel
theorem dX1_after_146 : decode cX1_after 146 = .ok (.iload 4, 2) := by decide +kernel
theorem dX1_after_148 : decode cX1_after 148 = .ok (.iload_n 2, 1) := by decide +kernel
theorem dX1_after_149 : decode cX1_after 149 = .ok (.iload_n 3, 1) := by decide +kernel
theorem dX1_after_150 : decode cX1_after 150 = .ok (.isub, 1) := by decide +kernel
theorem dX1_after_151 : decode cX1_after 151 = .ok (.invokestatic 27, 3) := by decide +kernel
theorem dX1_after_154 : decode cX1_after 154 = .ok (.invokestatic 23, 3) := by decide +kernel
theorem dX1_after_157 : decode cX1_after 157 = .ok (.ireturn, 1) := by decide +kernel
theorem dX1_after_158 : decode cX1_after 158 = .ok (.iload_n 2, 1) := by decide +kernel
theorem dX1_after_159 : decode cX1_after 159 = .ok (.iconst 0, 1) := by decide +kernel
theorem dX1_after_160 : decode cX1_after 160 = .ok (.iload 4, 2) := by decide +kernel
theorem dX1_after_162 : decode cX1_after 162 = .ok (.invokestatic 23, 3) := by decide +kernel
theorem dX1_after_165 : decode cX1_after 165 = .ok (.ireturn, 1) := by decide +kernel
theorem dX1_after_166 : decode cX1_after 166 = .ok (.iload_n 2, 1) := by decide +kernel
theorem dX1_after_167 : decode cX1_after 167 = .ok (.iconst 1, 1) := by decide +kernel
theorem dX1_after_168 : decode cX1_after 168 = .ok (.iadd, 1) := by decide +kernel
theorem dX1_after_169 : decode cX1_after 169 = .ok (.iload_n 3, 1) := by decide +kernel
theorem dX1_after_170 : decode cX1_after 170 = .ok (.iconst 1, 1) := by decide +kernel
theorem dX1_after_171 : decode cX1_after 171 = .ok (.iadd, 1) := by decide +kernel
theorem dX1_after_172 : decode cX1_after 172 = .ok (.iload 4, 2) := by decide +kernel
theorem dX1_after_174 : decode cX1_after 174 = .ok (.iload_n 2, 1) := by decide +kernel
theorem dX1_after_175 : decode cX1_after 175 = .ok (.iload_n 3, 1) := by decide +kernel
theorem dX1_after_176 : decode cX1_after 176 = .ok (.isub, 1) := by decide +kernel
theorem dX1_after_177 : decode cX1_after 177 = .ok (.iload_n 1, 1) := by decide +kernel
theorem dX1_after_178 : decode cX1_after 178 = .ok (.invokestatic 30, 3) := by decide +kernel
theorem dX1_after_181 : decode cX1_after 181 = .ok (.invokestatic 23, 3) := by decide +kernel
theorem dX1_after_184 : decode cX1_after 184 = .ok (.ireturn, 1) := by decide +kernel
theorem dX1_with_0 : decode cX1_with 0 = .ok (.iload_n 0, 1) := by decide +kernel
theorem dX1_with_1 : decode cX1_with 1 = .ok (.iconst 2, 1) := by decide +kernel
theorem dX1_with_2 : decode cX1_with 2 = .ok (.iload_n 1, 1) := by decide +kernel
theorem dX1_with_3 : decode cX1_with 3 = .ok (.imul, 1) := by decide +kernel
theorem dX1_with_4 : decode cX1_with 4 = .ok (.ishr, 1) := by decide +kernel
theorem dX1_with_5 : decode cX1_with 5 = .ok (.istore_n 3, 1) := by decide +kernel
theorem dX1_with_6 : decode cX1_with 6 = .ok (.iload_n 3, 1) := by decide +kernel
theorem dX1_with_7 : decode cX1_with 7 = .ok (.iconst 2, 1) := by decide +kernel
theorem dX1_with_8 : decode cX1_with 8 = .ok (.ishl, 1) := by decide +kernel
theorem dX1_with_9 : decode cX1_with 9 = .ok (.iload_n 2, 1) := by decide +kernel
theorem dX1_with_10 : decode cX1_with 10 = .ok (.ior, 1) := by decide +kernel
theorem dX1_with_11 : decode cX1_with 11 = .ok (.iconst 2, 1) := by decide +kernel
theorem dX1_with_12 : decode cX1_with 12 = .ok (.iload_n 1, 1) := by decide +kernel
theorem dX1_with_13 : decode cX1_with 13 = .ok (.imul, 1) := by decide +kernel
theorem dX1_with_14 : decode cX1_with 14 = .ok (.ishl, 1) := by decide +kernel
theorem dX1_with_15 : decode cX1_with 15 = .ok (.iload_n 0, 1) := by decide +kernel
theorem dX1_with_16 : decode cX1_with 16 = .ok (.iconst 1, 1) := by decide +kernel
theorem dX1_with_17 : decode cX1_with 17 = .ok (.iconst 2, 1) := by decide +kernel
theorem dX1_with_18 : decode cX1_with 18 = .ok (.iload_n 1, 1) := by decide +kernel
theorem dX1_with_19 : decode cX1_with 19 = .ok (.imul, 1) := by decide +kernel
theorem dX1_with_20 : decode cX1_with 20 = .ok (.ishl, 1) := by decide +kernel
theorem dX1_with_21 : decode cX1_with 21 = .ok (.iconst 1, 1) := by decide +kernel
theorem dX1_with_22 : decode cX1_with 22 = .ok (.isub, 1) := by decide +kernel
theorem dX1_with_23 : decode cX1_with 23 = .ok (.iand, 1) := by decide +kernel
theorem dX1_with_24 : decode cX1_with 24 = .ok (.ior, 1) := by decide +kernel
theorem dX1_with_25 : decode cX1_with 25 = .ok (.ireturn, 1) := by decide +kernel
theorem dX1_without_0 : decode cX1_without 0 = .ok (.iload_n 0, 1) := by decide +kernel
theorem dX1_without_1 : decode cX1_without 1 = .ok (.iconst 2, 1) := by decide +kernel
theorem dX1_without_2 : decode cX1_without 2 = .ok (.iload_n 1, 1) := by decide +kernel
theorem dX1_without_3 : decode cX1_without 3 = .ok (.imul, 1) := by decide +kernel
theorem dX1_without_4 : decode cX1_without 4 = .ok (.ishr, 1) := by decide +kernel
theorem dX1_without_5 : decode cX1_without 5 = .ok (.istore_n 2, 1) := by decide +kernel
theorem dX1_without_6 : decode cX1_without 6 = .ok (.iload_n 2, 1) := by decide +kernel
theorem dX1_without_7 : decode cX1_without 7 = .ok (.iconst 2, 1) := by decide +kernel
theorem dX1_without_8 : decode cX1_without 8 = .ok (.ishr, 1) := by decide +kernel
theorem dX1_without_9 : decode cX1_without 9 = .ok (.iconst 2, 1) := by decide +kernel
theorem dX1_without_10 : decode cX1_without 10 = .ok (.iload_n 1, 1) := by decide +kernel
theorem dX1_without_11 : decode cX1_without 11 = .ok (.imul, 1) := by decide +kernel
theorem dX1_without_12 : decode cX1_without 12 = .ok (.ishl, 1) := by decide +kernel
theorem dX1_without_13 : decode cX1_without 13 = .ok (.iload_n 0, 1) := by decide +kernel
theorem dX1_without_14 : decode cX1_without 14 = .ok (.iconst 1, 1) := by decide +kernel
theorem dX1_without_15 : decode cX1_without 15 = .ok (.iconst 2, 1) := by decide +kernel
theorem dX1_without_16 : decode cX1_without 16 = .ok (.iload_n 1, 1) := by decide +kernel
theorem dX1_without_17 : decode cX1_without 17 = .ok (.imul, 1) := by decide +kernel
theorem dX1_without_18 : decode cX1_without 18 = .ok (.ishl, 1) := by decide +kernel
theorem dX1_without_19 : decode cX1_without 19 = .ok (.iconst 1, 1) := by decide +kernel
theorem dX1_without_20 : decode cX1_without 20 = .ok (.isub, 1) := by decide +kernel
theorem dX1_without_21 : decode cX1_without 21 = .ok (.iand, 1) := by decide +kernel
theorem dX1_without_22 : decode cX1_without 22 = .ok (.ior, 1) := by decide +kernel
theorem dX1_without_23 : decode cX1_without 23 = .ok (.ireturn, 1) := by decide +kernel
theorem dX2_init_0 : decode cX2_init 0 = .ok (.aload_n 0, 1) := by decide +kernel
theorem dX2_init_1 : decode cX2_init 1 = .ok (.invokespecial 3, 3) := by decide +kernel
theorem dX2_init_4 : decode cX2_init 4 = .ok (.aload_n 0, 1) := by decide +kernel
theorem dX2_init_5 : decode cX2_init 5 = .ok (.iconst 4, 1) := by decide +kernel
theorem dX2_init_6 : decode cX2_init 6 = .ok (.newarray .int, 2) := by decide +kernel
theorem dX2_init_8 : decode cX2_init 8 = .ok (.putfield 9, 3) := by decide +kernel
theorem dX2_init_11 : decode cX2_init 11 = .ok (.return_, 1) := by decide +kernel
theorem dX2_often_0 : decode cX2_often 0 = .ok (.aload_n 0, 1) := by decide +kernel
theorem dX2_often_1 : decode cX2_often 1 = .ok (.getfield 15, 3) := by decide +kernel
theorem dX2_often_4 : decode cX2_often 4 = .ok (.lookupswitch 42 #[(1, 35), (2, 28)], 28) := by decide +kernel
theorem dX2_often_32 : decode cX2_often 32 = .ok (.iconst 2, 1) := by decide +kernel
theorem dX2_often_33 : decode cX2_often 33 = .ok (.aload_n 0, 1) := by decide +kernel
theorem dX2_often_34 : decode cX2_often 34 = .ok (.getfield 19, 3) := by decide +kernel
theorem dX2_often_37 : decode cX2_often 37 = .ok (.imul, 1) := by decide +kernel
theorem dX2_often_38 : decode cX2_often 38 = .ok (.ireturn, 1) := by decide +kernel
theorem dX2_often_39 : decode cX2_often 39 = .ok (.aload_n 0, 1) := by decide +kernel
theorem dX2_often_40 : decode cX2_often 40 = .ok (.getfield 19, 3) := by decide +kernel
theorem dX2_often_43 : decode cX2_often 43 = .ok (.iconst 1, 1) := by decide +kernel
theorem dX2_often_44 : decode cX2_often 44 = .ok (.iadd, 1) := by decide +kernel
theorem dX2_often_45 : decode cX2_often 45 = .ok (.ireturn, 1) := by decide +kernel
theorem dX2_often_46 : decode cX2_often 46 = .ok (.aload_n 0, 1) := by decide +kernel
theorem dX2_often_47 : decode cX2_often 47 = .ok (.getfield 19, 3) := by decide +kernel
theorem dX2_often_50 : decode cX2_often 50 = .ok (.ireturn, 1) := by decide +kernel
theorem dX2_keyAt_0 : decode cX2_keyAt 0 = .ok (.iload_n 1, 1) := by decide +kernel
theorem dX2_keyAt_1 : decode cX2_keyAt 1 = .ok (.ifCond .lt 16, 3) := by decide +kernel
theorem dX2_keyAt_4 : decode cX2_keyAt 4 = .ok (.iload_n 1, 1) := by decide +kernel
theorem dX2_keyAt_5 : decode cX2_keyAt 5 = .ok (.aload_n 0, 1) := by decide +kernel
theorem dX2_keyAt_6 : decode cX2_keyAt 6 = .ok (.getfield 22, 3) := by decide +kernel
theorem dX2_keyAt_9 : decode cX2_keyAt 9 = .ok (.if_icmp .ge 8, 3) := by decide +kernel
theorem dX2_keyAt_12 : decode cX2_keyAt 12 = .ok (.iload_n 1, 1) := by decide +kernel
theorem dX2_keyAt_13 : decode cX2_keyAt 13 = .ok (.iconst 4, 1) := by decide +kernel
theorem dX2_keyAt_14 : decode cX2_keyAt 14 = .ok (.if_icmp .lt 8, 3) := by decide +kernel
theorem dX2_keyAt_17 : decode cX2_keyAt 17 = .ok (.bipush (-9), 2) := by decide +kernel
theorem dX2_keyAt_19 : decode cX2_keyAt 19 = .ok (.goto 9, 3) := by decide +kernel
theorem dX2_keyAt_22 : decode cX2_keyAt 22 = .ok (.aload_n 0, 1) := by decide +kernel
theorem dX2_keyAt_23 : decode cX2_keyAt 23 = .ok (.getfield 9, 3) := by decide +kernel
theorem dX2_keyAt_26 : decode cX2_keyAt 26 = .ok (.iload_n 1, 1) := by decide +kernel
theorem dX2_keyAt_27 : decode cX2_keyAt 27 = .ok (.iaload, 1) := by decide +kernel
theorem dX2_keyAt_28 : decode cX2_keyAt 28 = .ok (.ireturn, 1) := by decide +kernel
theorem dX2_become_0 : decode cX2_become 0 = .ok (.aload_n 0, 1) := by decide +kernel
theorem dX2_become_1 : decode cX2_become 1 = .ok (.aload_n 1, 1) := by decide +kernel
theorem dX2_become_2 : decode cX2_become 2 = .ok (.getfield 15, 3) := by decide +kernel
theorem dX2_become_5 : decode cX2_become 5 = .ok (.putfield 15, 3) := by decide +kernel
theorem dX2_become_8 : decode cX2_become 8 = .ok (.aload_n 0, 1) := by decide +kernel
theorem dX2_become_9 : decode cX2_become 9 = .ok (.aload_n 1, 1) := by decide +kernel
theorem dX2_become_10 : decode cX2_become 10 = .ok (.getfield 19, 3) := by decide +kernel
theorem dX2_become_13 : decode cX2_become 13 = .ok (.putfield 19, 3) := by decide +kernel
theorem dX2_become_16 : decode cX2_become 16 = .ok (.aload_n 0, 1) := by decide +kernel
theorem dX2_become_17 : decode cX2_become 17 = .ok (.aload_n 1, 1) := by decide +kernel
theorem dX2_become_18 : decode cX2_become 18 = .ok (.getfield 22, 3) := by decide +kernel
theorem dX2_become_21 : decode cX2_become 21 = .ok (.putfield 22, 3) := by decide +kernel
theorem dX2_become_24 : decode cX2_become 24 = .ok (.aload_n 1, 1) := by decide +kernel
theorem dX2_become_25 : decode cX2_become 25 = .ok (.getfield 9, 3) := by decide +kernel
theorem dX2_become_28 : decode cX2_become 28 = .ok (.iconst 0, 1) := by decide +kernel
theorem dX2_become_29 : decode cX2_become 29 = .ok (.aload_n 0, 1) := by decide +kernel
theorem dX2_become_30 : decode cX2_become 30 = .ok (.getfield 9, 3) := by decide +kernel
theorem dX2_become_33 : decode cX2_become 33 = .ok (.iconst 0, 1) := by decide +kernel
theorem dX2_become_34 : decode cX2_become 34 = .ok (.iconst 4, 1) := by decide +kernel
theorem dX2_become_35 : decode cX2_become 35 = .ok (.invokestatic 25, 3) := by decide +kernel
theorem dX2_become_38 : decode cX2_become 38 = .ok (.return_, 1) := by decide +kernel
theorem dX3_init_0 : decode cX3_init 0 = .ok (.aload_n 0, 1) := by decide +kernel
theorem dX3_init_1 : decode cX3_init 1 = .ok (.invokespecial 3, 3) := by decide +kernel
theorem dX3_init_4 : decode cX3_init 4 = .ok (.aload_n 0, 1) := by decide +kernel
theorem dX3_init_5 : decode cX3_init 5 = .ok (.iconst 3, 1) := by decide +kernel
theorem dX3_init_6 : decode cX3_init 6 = .ok (.anewarray 9, 3) := by decide +kernel
theorem dX3_init_9 : decode cX3_init 9 = .ok (.dup, 1) := by decide +kernel
theorem dX3_init_10 : decode cX3_init 10 = .ok (.iconst 0, 1) := by decide +kernel
theorem dX3_init_11 : decode cX3_init 11 = .ok (.new 9, 3) := by decide +kernel
theorem dX3_init_14 : decode cX3_init 14 = .ok (.dup, 1) := by decide +kernel
theorem dX3_init_15 : decode cX3_init 15 = .ok (.invokespecial 11, 3) := by decide +kernel
theorem dX3_init_18 : decode cX3_init 18 = .ok (.aastore, 1) := by decide +kernel
theorem dX3_init_19 : decode cX3_init 19 = .ok (.dup, 1) := by decide +kernel
theorem dX3_init_20 : decode cX3_init 20 = .ok (.iconst 1, 1) := by decide +kernel
theorem dX3_init_21 : decode cX3_init 21 = .ok (.new 9, 3) := by decide +kernel
theorem dX3_init_24 : decode cX3_init 24 = .ok (.dup, 1) := by decide +kernel
theorem dX3_init_25 : decode cX3_init 25 = .ok (.invokespecial 11, 3) := by decide +kernel
theorem dX3_init_28 : decode cX3_init 28 = .ok (.aastore, 1) := by decide +kernel
theorem dX3_init_29 : decode cX3_init 29 = .ok (.dup, 1) := by decide +kernel
theorem dX3_init_30 : decode cX3_init 30 = .ok (.iconst 2, 1) := by decide +kernel
theorem dX3_init_31 : decode cX3_init 31 = .ok (.new 9, 3) := by decide +kernel
theorem dX3_init_34 : decode cX3_init 34 = .ok (.dup, 1) := by decide +kernel
theorem dX3_init_35 : decode cX3_init 35 = .ok (.invokespecial 11, 3) := by decide +kernel
theorem dX3_init_38 : decode cX3_init 38 = .ok (.aastore, 1) := by decide +kernel
theorem dX3_init_39 : decode cX3_init 39 = .ok (.putfield 12, 3) := by decide +kernel
theorem dX3_init_42 : decode cX3_init 42 = .ok (.aload_n 0, 1) := by decide +kernel
theorem dX3_init_43 : decode cX3_init 43 = .ok (.aload_n 0, 1) := by decide +kernel
theorem dX3_init_44 : decode cX3_init 44 = .ok (.getfield 12, 3) := by decide +kernel
theorem dX3_init_47 : decode cX3_init 47 = .ok (.iconst 0, 1) := by decide +kernel
theorem dX3_init_48 : decode cX3_init 48 = .ok (.aaload, 1) := by decide +kernel
theorem dX3_init_49 : decode cX3_init 49 = .ok (.putfield 18, 3) := by decide +kernel
theorem dX3_init_52 : decode cX3_init 52 = .ok (.return_, 1) := by decide +kernel
theorem dX3_firstFault_0 : decode cX3_firstFault 0 = .ok (.aload_n 0, 1) := by decide +kernel
theorem dX3_firstFault_1 : decode cX3_firstFault 1 = .ok (.iconst 0, 1) := by decide +kernel
theorem dX3_firstFault_2 : decode cX3_firstFault 2 = .ok (.putfield 22, 3) := by decide +kernel
theorem dX3_firstFault_5 : decode cX3_firstFault 5 = .ok (.aload_n 0, 1) := by decide +kernel
theorem dX3_firstFault_6 : decode cX3_firstFault 6 = .ok (.iconst 0, 1) := by decide +kernel
theorem dX3_firstFault_7 : decode cX3_firstFault 7 = .ok (.putfield 26, 3) := by decide +kernel
theorem dX3_firstFault_10 : decode cX3_firstFault 10 = .ok (.iconst 0, 1) := by decide +kernel
theorem dX3_firstFault_11 : decode cX3_firstFault 11 = .ok (.istore 4, 2) := by decide +kernel
theorem dX3_firstFault_13 : decode cX3_firstFault 13 = .ok (.iload 4, 2) := by decide +kernel
theorem dX3_firstFault_15 : decode cX3_firstFault 15 = .ok (.iload_n 3, 1) := by decide +kernel
theorem dX3_firstFault_16 : decode cX3_firstFault 16 = .ok (.if_icmp .ge 28, 3) := by decide +kernel
theorem dX3_firstFault_19 : decode cX3_firstFault 19 = .ok (.aload_n 0, 1) := by decide +kernel
theorem dX3_firstFault_20 : decode cX3_firstFault 20 = .ok (.aload_n 1, 1) := by decide +kernel
theorem dX3_firstFault_21 : decode cX3_firstFault 21 = .ok (.getfield 29, 3) := by decide +kernel
theorem dX3_firstFault_24 : decode cX3_firstFault 24 = .ok (.iload_n 2, 1) := by decide +kernel
theorem dX3_firstFault_25 : decode cX3_firstFault 25 = .ok (.iload 4, 2) := by decide +kernel
theorem dX3_firstFault_27 : decode cX3_firstFault 27 = .ok (.iadd, 1) := by decide +kernel
theorem dX3_firstFault_28 : decode cX3_firstFault 28 = .ok (.iaload, 1) := by decide +kernel
theorem dX3_firstFault_29 : decode cX3_firstFault 29 = .ok (.invokevirtual 35, 3) := by decide +kernel
theorem dX3_firstFault_32 : decode cX3_firstFault 32 = .ok (.ifCond .ne 6, 3) := by decide +kernel
theorem dX3_firstFault_35 : decode cX3_firstFault 35 = .ok (.iload 4, 2) := by decide +kernel
theorem dX3_firstFault_37 : decode cX3_firstFault 37 = .ok (.ireturn, 1) := by decide +kernel
theorem dX3_firstFault_38 : decode cX3_firstFault 38 = .ok (.iinc 4 1, 3) := by decide +kernel
theorem dX3_firstFault_41 : decode cX3_firstFault 41 = .ok (.goto (-28), 3) := by decide +kernel
theorem dX3_firstFault_44 : decode cX3_firstFault 44 = .ok (.aload_n 0, 1) := by decide +kernel
theorem dX3_firstFault_45 : decode cX3_firstFault 45 = .ok (.invokevirtual 39, 3) := by decide +kernel
theorem dX3_firstFault_48 : decode cX3_firstFault 48 = .ok (.ifCond .eq 8, 3) := by decide +kernel
theorem dX3_firstFault_51 : decode cX3_firstFault 51 = .ok (.bipush (-9), 2) := by decide +kernel
theorem dX3_firstFault_53 : decode cX3_firstFault 53 = .ok (.goto 4, 3) := by decide +kernel
theorem dX3_firstFault_56 : decode cX3_firstFault 56 = .ok (.iload_n 3, 1) := by decide +kernel
theorem dX3_firstFault_57 : decode cX3_firstFault 57 = .ok (.ireturn, 1) := by decide +kernel
theorem dX3_goesOn_0 : decode cX3_goesOn 0 = .ok (.aload_n 0, 1) := by decide +kernel
theorem dX3_goesOn_1 : decode cX3_goesOn 1 = .ok (.getfield 22, 3) := by decide +kernel
theorem dX3_goesOn_4 : decode cX3_goesOn 4 = .ok (.tableswitch 56 0 3 #[32, 38, 44, 50], 32) := by decide +kernel
theorem dX3_goesOn_36 : decode cX3_goesOn 36 = .ok (.aload_n 0, 1) := by decide +kernel
theorem dX3_goesOn_37 : decode cX3_goesOn 37 = .ok (.iload_n 1, 1) := by decide +kernel
theorem dX3_goesOn_38 : decode cX3_goesOn 38 = .ok (.invokevirtual 43, 3) := by decide +kernel
theorem dX3_goesOn_41 : decode cX3_goesOn 41 = .ok (.ireturn, 1) := by decide +kernel
theorem dX3_goesOn_42 : decode cX3_goesOn 42 = .ok (.aload_n 0, 1) := by decide +kernel
theorem dX3_goesOn_43 : decode cX3_goesOn 43 = .ok (.iload_n 1, 1) := by decide +kernel
theorem dX3_goesOn_44 : decode cX3_goesOn 44 = .ok (.invokevirtual 46, 3) := by decide +kernel
theorem dX3_goesOn_47 : decode cX3_goesOn 47 = .ok (.ireturn, 1) := by decide +kernel
theorem dX3_goesOn_48 : decode cX3_goesOn 48 = .ok (.aload_n 0, 1) := by decide +kernel
theorem dX3_goesOn_49 : decode cX3_goesOn 49 = .ok (.iload_n 1, 1) := by decide +kernel
theorem dX3_goesOn_50 : decode cX3_goesOn 50 = .ok (.invokevirtual 49, 3) := by decide +kernel
theorem dX3_goesOn_53 : decode cX3_goesOn 53 = .ok (.ireturn, 1) := by decide +kernel
theorem dX3_goesOn_54 : decode cX3_goesOn 54 = .ok (.aload_n 0, 1) := by decide +kernel
theorem dX3_goesOn_55 : decode cX3_goesOn 55 = .ok (.iload_n 1, 1) := by decide +kernel
theorem dX3_goesOn_56 : decode cX3_goesOn 56 = .ok (.invokevirtual 52, 3) := by decide +kernel
theorem dX3_goesOn_59 : decode cX3_goesOn 59 = .ok (.ireturn, 1) := by decide +kernel
theorem dX3_goesOn_60 : decode cX3_goesOn 60 = .ok (.aload_n 0, 1) := by decide +kernel
theorem dX3_goesOn_61 : decode cX3_goesOn 61 = .ok (.iload_n 1, 1) := by decide +kernel
theorem dX3_goesOn_62 : decode cX3_goesOn 62 = .ok (.invokevirtual 55, 3) := by decide +kernel
theorem dX3_goesOn_65 : decode cX3_goesOn 65 = .ok (.ifCond .ne 18, 3) := by decide +kernel
theorem dX3_goesOn_68 : decode cX3_goesOn 68 = .ok (.aload_n 0, 1) := by decide +kernel
theorem dX3_goesOn_69 : decode cX3_goesOn 69 = .ok (.invokevirtual 39, 3) := by decide +kernel
theorem dX3_goesOn_72 : decode cX3_goesOn 72 = .ok (.ifCond .eq 15, 3) := by decide +kernel
theorem dX3_goesOn_75 : decode cX3_goesOn 75 = .ok (.aload_n 0, 1) := by decide +kernel
theorem dX3_goesOn_76 : decode cX3_goesOn 76 = .ok (.iload_n 1, 1) := by decide +kernel
theorem dX3_goesOn_77 : decode cX3_goesOn 77 = .ok (.invokevirtual 46, 3) := by decide +kernel
theorem dX3_goesOn_80 : decode cX3_goesOn 80 = .ok (.ifCond .eq 7, 3) := by decide +kernel
theorem dX3_goesOn_83 : decode cX3_goesOn 83 = .ok (.iconst 1, 1) := by decide +kernel
theorem dX3_goesOn_84 : decode cX3_goesOn 84 = .ok (.goto 4, 3) := by decide +kernel
theorem dX3_goesOn_87 : decode cX3_goesOn 87 = .ok (.iconst 0, 1) := by decide +kernel
theorem dX3_goesOn_88 : decode cX3_goesOn 88 = .ok (.ireturn, 1) := by decide +kernel
theorem dX3_hasKeys_0 : decode cX3_hasKeys 0 = .ok (.aload_n 0, 1) := by decide +kernel
theorem dX3_hasKeys_1 : decode cX3_hasKeys 1 = .ok (.getfield 22, 3) := by decide +kernel
theorem dX3_hasKeys_4 : decode cX3_hasKeys 4 = .ok (.iconst 4, 1) := by decide +kernel
theorem dX3_hasKeys_5 : decode cX3_hasKeys 5 = .ok (.if_icmp .ne 17, 3) := by decide +kernel
theorem dX3_hasKeys_8 : decode cX3_hasKeys 8 = .ok (.aload_n 0, 1) := by decide +kernel
theorem dX3_hasKeys_9 : decode cX3_hasKeys 9 = .ok (.getfield 18, 3) := by decide +kernel
theorem dX3_hasKeys_12 : decode cX3_hasKeys 12 = .ok (.getfield 58, 3) := by decide +kernel
theorem dX3_hasKeys_15 : decode cX3_hasKeys 15 = .ok (.ifCond .le 7, 3) := by decide +kernel
theorem dX3_hasKeys_18 : decode cX3_hasKeys 18 = .ok (.iconst 1, 1) := by decide +kernel
theorem dX3_hasKeys_19 : decode cX3_hasKeys 19 = .ok (.goto 4, 3) := by decide +kernel
theorem dX3_hasKeys_22 : decode cX3_hasKeys 22 = .ok (.iconst 0, 1) := by decide +kernel
theorem dX3_hasKeys_23 : decode cX3_hasKeys 23 = .ok (.ireturn, 1) := by decide +kernel
theorem dX3_begins_0 : decode cX3_begins 0 = .ok (.aload_n 0, 1) := by decide +kernel
theorem dX3_begins_1 : decode cX3_begins 1 = .ok (.iconst 1, 1) := by decide +kernel
theorem dX3_begins_2 : decode cX3_begins 2 = .ok (.putfield 22, 3) := by decide +kernel
theorem dX3_begins_5 : decode cX3_begins 5 = .ok (.iload_n 1, 1) := by decide +kernel
theorem dX3_begins_6 : decode cX3_begins 6 = .ok (.bipush 107, 2) := by decide +kernel
theorem dX3_begins_8 : decode cX3_begins 8 = .ok (.if_icmp .ne 7, 3) := by decide +kernel
theorem dX3_begins_11 : decode cX3_begins 11 = .ok (.iconst 1, 1) := by decide +kernel
theorem dX3_begins_12 : decode cX3_begins 12 = .ok (.goto 4, 3) := by decide +kernel
theorem dX3_begins_15 : decode cX3_begins 15 = .ok (.iconst 0, 1) := by decide +kernel
theorem dX3_begins_16 : decode cX3_begins 16 = .ok (.ireturn, 1) := by decide +kernel
theorem dX3_marks_0 : decode cX3_marks 0 = .ok (.iload_n 1, 1) := by decide +kernel
theorem dX3_marks_1 : decode cX3_marks 1 = .ok (.bipush 59, 2) := by decide +kernel
theorem dX3_marks_3 : decode cX3_marks 3 = .ok (.if_icmp .ne 11, 3) := by decide +kernel
theorem dX3_marks_6 : decode cX3_marks 6 = .ok (.aload_n 0, 1) := by decide +kernel
theorem dX3_marks_7 : decode cX3_marks 7 = .ok (.getfield 26, 3) := by decide +kernel
theorem dX3_marks_10 : decode cX3_marks 10 = .ok (.iconst 3, 1) := by decide +kernel
theorem dX3_marks_11 : decode cX3_marks 11 = .ok (.if_icmp .lt 5, 3) := by decide +kernel
theorem dX3_marks_14 : decode cX3_marks 14 = .ok (.iconst 0, 1) := by decide +kernel
theorem dX3_marks_15 : decode cX3_marks 15 = .ok (.ireturn, 1) := by decide +kernel
theorem dX3_marks_16 : decode cX3_marks 16 = .ok (.aload_n 0, 1) := by decide +kernel
theorem dX3_marks_17 : decode cX3_marks 17 = .ok (.aload_n 0, 1) := by decide +kernel
theorem dX3_marks_18 : decode cX3_marks 18 = .ok (.getfield 12, 3) := by decide +kernel
theorem dX3_marks_21 : decode cX3_marks 21 = .ok (.aload_n 0, 1) := by decide +kernel
theorem dX3_marks_22 : decode cX3_marks 22 = .ok (.getfield 26, 3) := by decide +kernel
theorem dX3_marks_25 : decode cX3_marks 25 = .ok (.aaload, 1) := by decide +kernel
theorem dX3_marks_26 : decode cX3_marks 26 = .ok (.putfield 18, 3) := by decide +kernel
theorem dX3_marks_29 : decode cX3_marks 29 = .ok (.aload_n 0, 1) := by decide +kernel
theorem dX3_marks_30 : decode cX3_marks 30 = .ok (.getfield 18, 3) := by decide +kernel
theorem dX3_marks_33 : decode cX3_marks 33 = .ok (.iconst 0, 1) := by decide +kernel
theorem dX3_marks_34 : decode cX3_marks 34 = .ok (.putfield 58, 3) := by decide +kernel
theorem dX3_marks_37 : decode cX3_marks 37 = .ok (.aload_n 0, 1) := by decide +kernel
theorem dX3_marks_38 : decode cX3_marks 38 = .ok (.dup, 1) := by decide +kernel
theorem dX3_marks_39 : decode cX3_marks 39 = .ok (.getfield 26, 3) := by decide +kernel
theorem dX3_marks_42 : decode cX3_marks 42 = .ok (.iconst 1, 1) := by decide +kernel
theorem dX3_marks_43 : decode cX3_marks 43 = .ok (.iadd, 1) := by decide +kernel
theorem dX3_marks_44 : decode cX3_marks 44 = .ok (.putfield 26, 3) := by decide +kernel
theorem dX3_marks_47 : decode cX3_marks 47 = .ok (.aload_n 0, 1) := by decide +kernel
theorem dX3_marks_48 : decode cX3_marks 48 = .ok (.iconst 2, 1) := by decide +kernel
theorem dX3_marks_49 : decode cX3_marks 49 = .ok (.putfield 22, 3) := by decide +kernel
theorem dX3_marks_52 : decode cX3_marks 52 = .ok (.iconst 1, 1) := by decide +kernel
theorem dX3_marks_53 : decode cX3_marks 53 = .ok (.ireturn, 1) := by decide +kernel
theorem dX3_tellsKind_0 : decode cX3_tellsKind 0 = .ok (.aload_n 0, 1) := by decide +kernel
theorem dX3_tellsKind_1 : decode cX3_tellsKind 1 = .ok (.getfield 18, 3) := by decide +kernel
theorem dX3_tellsKind_4 : decode cX3_tellsKind 4 = .ok (.iload_n 1, 1) := by decide +kernel
theorem dX3_tellsKind_5 : decode cX3_tellsKind 5 = .ok (.bipush 112, 2) := by decide +kernel
theorem dX3_tellsKind_7 : decode cX3_tellsKind 7 = .ok (.if_icmp .ne 7, 3) := by decide +kernel
theorem dX3_tellsKind_10 : decode cX3_tellsKind 10 = .ok (.iconst 0, 1) := by decide +kernel
theorem dX3_tellsKind_11 : decode cX3_tellsKind 11 = .ok (.goto 14, 3) := by decide +kernel
theorem dX3_tellsKind_14 : decode cX3_tellsKind 14 = .ok (.iload_n 1, 1) := by decide +kernel
theorem dX3_tellsKind_15 : decode cX3_tellsKind 15 = .ok (.bipush 98, 2) := by decide +kernel
theorem dX3_tellsKind_17 : decode cX3_tellsKind 17 = .ok (.if_icmp .ne 7, 3) := by decide +kernel
theorem dX3_tellsKind_20 : decode cX3_tellsKind 20 = .ok (.iconst 1, 1) := by decide +kernel
theorem dX3_tellsKind_21 : decode cX3_tellsKind 21 = .ok (.goto 4, 3) := by decide +kernel
theorem dX3_tellsKind_24 : decode cX3_tellsKind 24 = .ok (.iconst 2, 1) := by decide +kernel
theorem dX3_tellsKind_25 : decode cX3_tellsKind 25 = .ok (.putfield 61, 3) := by decide +kernel
theorem dX3_tellsKind_28 : decode cX3_tellsKind 28 = .ok (.aload_n 0, 1) := by decide +kernel
theorem dX3_tellsKind_29 : decode cX3_tellsKind 29 = .ok (.iconst 3, 1) := by decide +kernel
theorem dX3_tellsKind_30 : decode cX3_tellsKind 30 = .ok (.putfield 22, 3) := by decide +kernel
theorem dX3_tellsKind_33 : decode cX3_tellsKind 33 = .ok (.iload_n 1, 1) := by decide +kernel
theorem dX3_tellsKind_34 : decode cX3_tellsKind 34 = .ok (.bipush 112, 2) := by decide +kernel
theorem dX3_tellsKind_36 : decode cX3_tellsKind 36 = .ok (.if_icmp .eq 15, 3) := by decide +kernel
theorem dX3_tellsKind_39 : decode cX3_tellsKind 39 = .ok (.iload_n 1, 1) := by decide +kernel
theorem dX3_tellsKind_40 : decode cX3_tellsKind 40 = .ok (.bipush 98, 2) := by decide +kernel
theorem dX3_tellsKind_42 : decode cX3_tellsKind 42 = .ok (.if_icmp .eq 9, 3) := by decide +kernel
theorem dX3_tellsKind_45 : decode cX3_tellsKind 45 = .ok (.iload_n 1, 1) := by decide +kernel
theorem dX3_tellsKind_46 : decode cX3_tellsKind 46 = .ok (.bipush 101, 2) := by decide +kernel
theorem dX3_tellsKind_48 : decode cX3_tellsKind 48 = .ok (.if_icmp .ne 7, 3) := by decide +kernel
theorem dX3_tellsKind_51 : decode cX3_tellsKind 51 = .ok (.iconst 1, 1) := by decide +kernel
theorem dX3_tellsKind_52 : decode cX3_tellsKind 52 = .ok (.goto 4, 3) := by decide +kernel
theorem dX3_tellsKind_55 : decode cX3_tellsKind 55 = .ok (.iconst 0, 1) := by decide +kernel
theorem dX3_tellsKind_56 : decode cX3_tellsKind 56 = .ok (.ireturn, 1) := by decide +kernel
theorem dX3_tellsTimes_0 : decode cX3_tellsTimes 0 = .ok (.aload_n 0, 1) := by decide +kernel
theorem dX3_tellsTimes_1 : decode cX3_tellsTimes 1 = .ok (.getfield 18, 3) := by decide +kernel
theorem dX3_tellsTimes_4 : decode cX3_tellsTimes 4 = .ok (.iload_n 1, 1) := by decide +kernel
theorem dX3_tellsTimes_5 : decode cX3_tellsTimes 5 = .ok (.bipush 48, 2) := by decide +kernel
theorem dX3_tellsTimes_7 : decode cX3_tellsTimes 7 = .ok (.isub, 1) := by decide +kernel
theorem dX3_tellsTimes_8 : decode cX3_tellsTimes 8 = .ok (.putfield 64, 3) := by decide +kernel
theorem dX3_tellsTimes_11 : decode cX3_tellsTimes 11 = .ok (.aload_n 0, 1) := by decide +kernel
theorem dX3_tellsTimes_12 : decode cX3_tellsTimes 12 = .ok (.iconst 4, 1) := by decide +kernel
theorem dX3_tellsTimes_13 : decode cX3_tellsTimes 13 = .ok (.putfield 22, 3) := by decide +kernel
theorem dX3_tellsTimes_16 : decode cX3_tellsTimes 16 = .ok (.iload_n 1, 1) := by decide +kernel
theorem dX3_tellsTimes_17 : decode cX3_tellsTimes 17 = .ok (.bipush 49, 2) := by decide +kernel
theorem dX3_tellsTimes_19 : decode cX3_tellsTimes 19 = .ok (.if_icmp .lt 13, 3) := by decide +kernel
theorem dX3_tellsTimes_22 : decode cX3_tellsTimes 22 = .ok (.iload_n 1, 1) := by decide +kernel
theorem dX3_tellsTimes_23 : decode cX3_tellsTimes 23 = .ok (.bipush 51, 2) := by decide +kernel
theorem dX3_tellsTimes_25 : decode cX3_tellsTimes 25 = .ok (.if_icmp .gt 7, 3) := by decide +kernel
theorem dX3_tellsTimes_28 : decode cX3_tellsTimes 28 = .ok (.iconst 1, 1) := by decide +kernel
theorem dX3_tellsTimes_29 : decode cX3_tellsTimes 29 = .ok (.goto 4, 3) := by decide +kernel
theorem dX3_tellsTimes_32 : decode cX3_tellsTimes 32 = .ok (.iconst 0, 1) := by decide +kernel
theorem dX3_tellsTimes_33 : decode cX3_tellsTimes 33 = .ok (.ireturn, 1) := by decide +kernel
theorem dX3_addsKey_0 : decode cX3_addsKey 0 = .ok (.aload_n 0, 1) := by decide +kernel
theorem dX3_addsKey_1 : decode cX3_addsKey 1 = .ok (.iload_n 1, 1) := by decide +kernel
theorem dX3_addsKey_2 : decode cX3_addsKey 2 = .ok (.invokevirtual 67, 3) := by decide +kernel
theorem dX3_addsKey_5 : decode cX3_addsKey 5 = .ok (.istore_n 2, 1) := by decide +kernel
theorem dX3_addsKey_6 : decode cX3_addsKey 6 = .ok (.iload_n 2, 1) := by decide +kernel
theorem dX3_addsKey_7 : decode cX3_addsKey 7 = .ok (.bipush (-9), 2) := by decide +kernel
theorem dX3_addsKey_9 : decode cX3_addsKey 9 = .ok (.if_icmp .eq 14, 3) := by decide +kernel
theorem dX3_addsKey_12 : decode cX3_addsKey 12 = .ok (.aload_n 0, 1) := by decide +kernel
theorem dX3_addsKey_13 : decode cX3_addsKey 13 = .ok (.getfield 18, 3) := by decide +kernel
theorem dX3_addsKey_16 : decode cX3_addsKey 16 = .ok (.getfield 58, 3) := by decide +kernel
theorem dX3_addsKey_19 : decode cX3_addsKey 19 = .ok (.iconst 4, 1) := by decide +kernel
theorem dX3_addsKey_20 : decode cX3_addsKey 20 = .ok (.if_icmp .lt 5, 3) := by decide +kernel
theorem dX3_addsKey_23 : decode cX3_addsKey 23 = .ok (.iconst 0, 1) := by decide +kernel
theorem dX3_addsKey_24 : decode cX3_addsKey 24 = .ok (.ireturn, 1) := by decide +kernel
theorem dX3_addsKey_25 : decode cX3_addsKey 25 = .ok (.aload_n 0, 1) := by decide +kernel
theorem dX3_addsKey_26 : decode cX3_addsKey 26 = .ok (.getfield 18, 3) := by decide +kernel
theorem dX3_addsKey_29 : decode cX3_addsKey 29 = .ok (.getfield 71, 3) := by decide +kernel
theorem dX3_addsKey_32 : decode cX3_addsKey 32 = .ok (.aload_n 0, 1) := by decide +kernel
theorem dX3_addsKey_33 : decode cX3_addsKey 33 = .ok (.getfield 18, 3) := by decide +kernel
theorem dX3_addsKey_36 : decode cX3_addsKey 36 = .ok (.getfield 58, 3) := by decide +kernel
theorem dX3_addsKey_39 : decode cX3_addsKey 39 = .ok (.iload_n 2, 1) := by decide +kernel
theorem dX3_addsKey_40 : decode cX3_addsKey 40 = .ok (.iastore, 1) := by decide +kernel
theorem dX3_addsKey_41 : decode cX3_addsKey 41 = .ok (.aload_n 0, 1) := by decide +kernel
theorem dX3_addsKey_42 : decode cX3_addsKey 42 = .ok (.getfield 18, 3) := by decide +kernel
theorem dX3_addsKey_45 : decode cX3_addsKey 45 = .ok (.dup, 1) := by decide +kernel
theorem dX3_addsKey_46 : decode cX3_addsKey 46 = .ok (.getfield 58, 3) := by decide +kernel
theorem dX3_addsKey_49 : decode cX3_addsKey 49 = .ok (.iconst 1, 1) := by decide +kernel
theorem dX3_addsKey_50 : decode cX3_addsKey 50 = .ok (.iadd, 1) := by decide +kernel
theorem dX3_addsKey_51 : decode cX3_addsKey 51 = .ok (.putfield 58, 3) := by decide +kernel
theorem dX3_addsKey_54 : decode cX3_addsKey 54 = .ok (.iconst 1, 1) := by decide +kernel
theorem dX3_addsKey_55 : decode cX3_addsKey 55 = .ok (.ireturn, 1) := by decide +kernel
theorem dX3_keyOf_0 : decode cX3_keyOf 0 = .ok (.iload_n 1, 1) := by decide +kernel
theorem dX3_keyOf_1 : decode cX3_keyOf 1 = .ok (.lookupswitch 53 #[(60, 43), (62, 45), (104, 50), (120, 47)], 43) := by decide +kernel
theorem dX3_keyOf_44 : decode cX3_keyOf 44 = .ok (.iconst 4, 1) := by decide +kernel
theorem dX3_keyOf_45 : decode cX3_keyOf 45 = .ok (.ireturn, 1) := by decide +kernel
theorem dX3_keyOf_46 : decode cX3_keyOf 46 = .ok (.iconst 5, 1) := by decide +kernel
theorem dX3_keyOf_47 : decode cX3_keyOf 47 = .ok (.ireturn, 1) := by decide +kernel
theorem dX3_keyOf_48 : decode cX3_keyOf 48 = .ok (.bipush 6, 2) := by decide +kernel
theorem dX3_keyOf_50 : decode cX3_keyOf 50 = .ok (.ireturn, 1) := by decide +kernel
theorem dX3_keyOf_51 : decode cX3_keyOf 51 = .ok (.bipush 7, 2) := by decide +kernel
theorem dX3_keyOf_53 : decode cX3_keyOf 53 = .ok (.ireturn, 1) := by decide +kernel
theorem dX3_keyOf_54 : decode cX3_keyOf 54 = .ok (.iload_n 1, 1) := by decide +kernel
theorem dX3_keyOf_55 : decode cX3_keyOf 55 = .ok (.bipush 97, 2) := by decide +kernel
theorem dX3_keyOf_57 : decode cX3_keyOf 57 = .ok (.if_icmp .lt 14, 3) := by decide +kernel
theorem dX3_keyOf_60 : decode cX3_keyOf 60 = .ok (.iload_n 1, 1) := by decide +kernel
theorem dX3_keyOf_61 : decode cX3_keyOf 61 = .ok (.bipush 101, 2) := by decide +kernel
theorem dX3_keyOf_63 : decode cX3_keyOf 63 = .ok (.if_icmp .ge 8, 3) := by decide +kernel
theorem dX3_keyOf_66 : decode cX3_keyOf 66 = .ok (.iload_n 1, 1) := by decide +kernel
theorem dX3_keyOf_67 : decode cX3_keyOf 67 = .ok (.bipush 97, 2) := by decide +kernel
theorem dX3_keyOf_69 : decode cX3_keyOf 69 = .ok (.isub, 1) := by decide +kernel
theorem dX3_keyOf_70 : decode cX3_keyOf 70 = .ok (.ireturn, 1) := by decide +kernel
theorem dX3_keyOf_71 : decode cX3_keyOf 71 = .ok (.iload_n 1, 1) := by decide +kernel
theorem dX3_keyOf_72 : decode cX3_keyOf 72 = .ok (.bipush 48, 2) := by decide +kernel
theorem dX3_keyOf_74 : decode cX3_keyOf 74 = .ok (.if_icmp .lt 20, 3) := by decide +kernel
theorem dX3_keyOf_77 : decode cX3_keyOf 77 = .ok (.iload_n 1, 1) := by decide +kernel
theorem dX3_keyOf_78 : decode cX3_keyOf 78 = .ok (.bipush 48, 2) := by decide +kernel
theorem dX3_keyOf_80 : decode cX3_keyOf 80 = .ok (.aload_n 0, 1) := by decide +kernel
theorem dX3_keyOf_81 : decode cX3_keyOf 81 = .ok (.getfield 26, 3) := by decide +kernel
theorem dX3_keyOf_84 : decode cX3_keyOf 84 = .ok (.iadd, 1) := by decide +kernel
theorem dX3_keyOf_85 : decode cX3_keyOf 85 = .ok (.iconst 1, 1) := by decide +kernel
theorem dX3_keyOf_86 : decode cX3_keyOf 86 = .ok (.isub, 1) := by decide +kernel
theorem dX3_keyOf_87 : decode cX3_keyOf 87 = .ok (.if_icmp .ge 7, 3) := by decide +kernel
theorem dX3_keyOf_90 : decode cX3_keyOf 90 = .ok (.iconst 1, 1) := by decide +kernel
theorem dX3_keyOf_91 : decode cX3_keyOf 91 = .ok (.goto 4, 3) := by decide +kernel
theorem dX3_keyOf_94 : decode cX3_keyOf 94 = .ok (.iconst 0, 1) := by decide +kernel
theorem dX3_keyOf_95 : decode cX3_keyOf 95 = .ok (.istore_n 2, 1) := by decide +kernel
theorem dX3_keyOf_96 : decode cX3_keyOf 96 = .ok (.iload_n 2, 1) := by decide +kernel
theorem dX3_keyOf_97 : decode cX3_keyOf 97 = .ok (.ifCond .eq 13, 3) := by decide +kernel
theorem dX3_keyOf_100 : decode cX3_keyOf 100 = .ok (.bipush 8, 2) := by decide +kernel
theorem dX3_keyOf_102 : decode cX3_keyOf 102 = .ok (.iload_n 1, 1) := by decide +kernel
theorem dX3_keyOf_103 : decode cX3_keyOf 103 = .ok (.iadd, 1) := by decide +kernel
theorem dX3_keyOf_104 : decode cX3_keyOf 104 = .ok (.bipush 48, 2) := by decide +kernel
theorem dX3_keyOf_106 : decode cX3_keyOf 106 = .ok (.isub, 1) := by decide +kernel
theorem dX3_keyOf_107 : decode cX3_keyOf 107 = .ok (.goto 5, 3) := by decide +kernel
theorem dX3_keyOf_110 : decode cX3_keyOf 110 = .ok (.bipush (-9), 2) := by decide +kernel
theorem dX3_keyOf_112 : decode cX3_keyOf 112 = .ok (.ireturn, 1) := by decide +kernel
theorem dX4_init_0 : decode cX4_init 0 = .ok (.aload_n 0, 1) := by decide +kernel
theorem dX4_init_1 : decode cX4_init 1 = .ok (.invokespecial 3, 3) := by decide +kernel
theorem dX4_init_4 : decode cX4_init 4 = .ok (.aload_n 0, 1) := by decide +kernel
theorem dX4_init_5 : decode cX4_init 5 = .ok (.sipush 7737, 3) := by decide +kernel
theorem dX4_init_8 : decode cX4_init 8 = .ok (.newarray .int, 2) := by decide +kernel
theorem dX4_init_10 : decode cX4_init 10 = .ok (.putfield 11, 3) := by decide +kernel
theorem dX4_init_13 : decode cX4_init 13 = .ok (.aload_n 0, 1) := by decide +kernel
theorem dX4_init_14 : decode cX4_init 14 = .ok (.sipush 7737, 3) := by decide +kernel
theorem dX4_init_17 : decode cX4_init 17 = .ok (.newarray .int, 2) := by decide +kernel
theorem dX4_init_19 : decode cX4_init 19 = .ok (.putfield 17, 3) := by decide +kernel
theorem dX4_init_22 : decode cX4_init 22 = .ok (.return_, 1) := by decide +kernel
theorem dX4_reachable_0 : decode cX4_reachable 0 = .ok (.aload_n 0, 1) := by decide +kernel
theorem dX4_reachable_1 : decode cX4_reachable 1 = .ok (.aload_n 1, 1) := by decide +kernel
theorem dX4_reachable_2 : decode cX4_reachable 2 = .ok (.iload_n 2, 1) := by decide +kernel
theorem dX4_reachable_3 : decode cX4_reachable 3 = .ok (.iload_n 3, 1) := by decide +kernel
theorem dX4_reachable_4 : decode cX4_reachable 4 = .ok (.bipush (-9), 2) := by decide +kernel
theorem dX4_reachable_6 : decode cX4_reachable 6 = .ok (.invokevirtual 20, 3) := by decide +kernel
theorem dX4_reachable_9 : decode cX4_reachable 9 = .ok (.pop, 1) := by decide +kernel
theorem dX4_reachable_10 : decode cX4_reachable 10 = .ok (.aload_n 0, 1) := by decide +kernel
theorem dX4_reachable_11 : decode cX4_reachable 11 = .ok (.getfield 24, 3) := by decide +kernel
theorem dX4_reachable_14 : decode cX4_reachable 14 = .ok (.ireturn, 1) := by decide +kernel
theorem dX4_find_0 : decode cX4_find 0 = .ok (.aload_n 0, 1) := by decide +kernel
theorem dX4_find_1 : decode cX4_find 1 = .ok (.getfield 17, 3) := by decide +kernel
theorem dX4_find_4 : decode cX4_find 4 = .ok (.iconst 0, 1) := by decide +kernel
theorem dX4_find_5 : decode cX4_find 5 = .ok (.invokestatic 28, 3) := by decide +kernel
theorem dX4_find_8 : decode cX4_find 8 = .ok (.aload_n 0, 1) := by decide +kernel
theorem dX4_find_9 : decode cX4_find 9 = .ok (.iconst 0, 1) := by decide +kernel
theorem dX4_find_10 : decode cX4_find 10 = .ok (.putfield 24, 3) := by decide +kernel
theorem dX4_find_13 : decode cX4_find 13 = .ok (.aload_n 0, 1) := by decide +kernel
theorem dX4_find_14 : decode cX4_find 14 = .ok (.iload_n 2, 1) := by decide +kernel
theorem dX4_find_15 : decode cX4_find 15 = .ok (.iconst (-1), 1) := by decide +kernel
theorem dX4_find_16 : decode cX4_find 16 = .ok (.invokevirtual 34, 3) := by decide +kernel
theorem dX4_find_19 : decode cX4_find 19 = .ok (.iload_n 2, 1) := by decide +kernel
theorem dX4_find_20 : decode cX4_find 20 = .ok (.iload 4, 2) := by decide +kernel
theorem dX4_find_22 : decode cX4_find 22 = .ok (.invokestatic 38, 3) := by decide +kernel
theorem dX4_find_25 : decode cX4_find 25 = .ok (.ifCond .eq 5, 3) := by decide +kernel
theorem dX4_find_28 : decode cX4_find 28 = .ok (.iload_n 2, 1) := by decide +kernel
theorem dX4_find_29 : decode cX4_find 29 = .ok (.ireturn, 1) := by decide +kernel
theorem dX4_find_30 : decode cX4_find 30 = .ok (.iconst 0, 1) := by decide +kernel
theorem dX4_find_31 : decode cX4_find 31 = .ok (.istore 5, 2) := by decide +kernel
theorem dX4_find_33 : decode cX4_find 33 = .ok (.iload 5, 2) := by decide +kernel
theorem dX4_find_35 : decode cX4_find 35 = .ok (.aload_n 0, 1) := by decide +kernel
theorem dX4_find_36 : decode cX4_find 36 = .ok (.getfield 24, 3) := by decide +kernel
theorem dX4_find_39 : decode cX4_find 39 = .ok (.if_icmp .ge 103, 3) := by decide +kernel
theorem dX4_find_42 : decode cX4_find 42 = .ok (.iload 5, 2) := by decide +kernel
theorem dX4_find_44 : decode cX4_find 44 = .ok (.sipush 7737, 3) := by decide +kernel
theorem dX4_find_47 : decode cX4_find 47 = .ok (.if_icmp .ge 95, 3) := by decide +kernel
theorem dX4_find_50 : decode cX4_find 50 = .ok (.aload_n 0, 1) := by decide +kernel
theorem dX4_find_51 : decode cX4_find 51 = .ok (.getfield 11, 3) := by decide +kernel
theorem dX4_find_54 : decode cX4_find 54 = .ok (.iload 5, 2) := by decide +kernel
theorem dX4_find_56 : decode cX4_find 56 = .ok (.iaload, 1) := by decide +kernel
theorem dX4_find_57 : decode cX4_find 57 = .ok (.istore 6, 2) := by decide +kernel
theorem dX4_find_59 : decode cX4_find 59 = .ok (.iload_n 3, 1) := by decide +kernel
theorem dX4_find_60 : decode cX4_find 60 = .ok (.istore 7, 2) := by decide +kernel
theorem dX4_find_62 : decode cX4_find 62 = .ok (.iload 7, 2) := by decide +kernel
theorem dX4_find_64 : decode cX4_find 64 = .ok (.aload_n 1, 1) := by decide +kernel
theorem dX4_find_65 : decode cX4_find 65 = .ok (.invokevirtual 42, 3) := by decide +kernel
theorem dX4_find_68 : decode cX4_find 68 = .ok (.if_icmp .ge 68, 3) := by decide +kernel
theorem dX4_find_71 : decode cX4_find 71 = .ok (.aload_n 1, 1) := by decide +kernel
theorem dX4_find_72 : decode cX4_find 72 = .ok (.iload 6, 2) := by decide +kernel
theorem dX4_find_74 : decode cX4_find 74 = .ok (.iload 7, 2) := by decide +kernel
theorem dX4_find_76 : decode cX4_find 76 = .ok (.invokevirtual 48, 3) := by decide +kernel
theorem dX4_find_79 : decode cX4_find 79 = .ok (.istore 8, 2) := by decide +kernel
theorem dX4_find_81 : decode cX4_find 81 = .ok (.iload 8, 2) := by decide +kernel
theorem dX4_find_83 : decode cX4_find 83 = .ok (.invokestatic 52, 3) := by decide +kernel
theorem dX4_find_86 : decode cX4_find 86 = .ok (.ifCond .eq 44, 3) := by decide +kernel
theorem dX4_find_89 : decode cX4_find 89 = .ok (.aload_n 0, 1) := by decide +kernel
theorem dX4_find_90 : decode cX4_find 90 = .ok (.getfield 17, 3) := by decide +kernel
theorem dX4_find_93 : decode cX4_find 93 = .ok (.iload 8, 2) := by decide +kernel
theorem dX4_find_95 : decode cX4_find 95 = .ok (.iaload, 1) := by decide +kernel
theorem dX4_find_96 : decode cX4_find 96 = .ok (.ifCond .eq 6, 3) := by decide +kernel
theorem dX4_find_99 : decode cX4_find 99 = .ok (.goto 31, 3) := by decide +kernel
theorem dX4_find_102 : decode cX4_find 102 = .ok (.aload_n 0, 1) := by decide +kernel
theorem dX4_find_103 : decode cX4_find 103 = .ok (.iload 8, 2) := by decide +kernel
theorem dX4_find_105 : decode cX4_find 105 = .ok (.iconst 1, 1) := by decide +kernel
theorem dX4_find_106 : decode cX4_find 106 = .ok (.iload 6, 2) := by decide +kernel
theorem dX4_find_108 : decode cX4_find 108 = .ok (.iconst 4, 1) := by decide +kernel
theorem dX4_find_109 : decode cX4_find 109 = .ok (.ishl, 1) := by decide +kernel
theorem dX4_find_110 : decode cX4_find 110 = .ok (.iload 7, 2) := by decide +kernel
theorem dX4_find_112 : decode cX4_find 112 = .ok (.ior, 1) := by decide +kernel
theorem dX4_find_113 : decode cX4_find 113 = .ok (.iadd, 1) := by decide +kernel
theorem dX4_find_114 : decode cX4_find 114 = .ok (.invokevirtual 34, 3) := by decide +kernel
theorem dX4_find_117 : decode cX4_find 117 = .ok (.iload 8, 2) := by decide +kernel
theorem dX4_find_119 : decode cX4_find 119 = .ok (.iload 4, 2) := by decide +kernel
theorem dX4_find_121 : decode cX4_find 121 = .ok (.invokestatic 38, 3) := by decide +kernel
theorem dX4_find_124 : decode cX4_find 124 = .ok (.ifCond .eq 6, 3) := by decide +kernel
theorem dX4_find_127 : decode cX4_find 127 = .ok (.iload 8, 2) := by decide +kernel
theorem dX4_find_129 : decode cX4_find 129 = .ok (.ireturn, 1) := by decide +kernel
theorem dX4_find_130 : decode cX4_find 130 = .ok (.iinc 7 1, 3) := by decide +kernel
theorem dX4_find_133 : decode cX4_find 133 = .ok (.goto (-71), 3) := by decide +kernel
theorem dX4_find_136 : decode cX4_find 136 = .ok (.iinc 5 1, 3) := by decide +kernel
theorem dX4_find_139 : decode cX4_find 139 = .ok (.goto (-106), 3) := by decide +kernel
theorem dX4_find_142 : decode cX4_find 142 = .ok (.bipush (-9), 2) := by decide +kernel
theorem dX4_find_144 : decode cX4_find 144 = .ok (.ireturn, 1) := by decide +kernel
theorem dX4_queueUp_0 : decode cX4_queueUp 0 = .ok (.aload_n 0, 1) := by decide +kernel
theorem dX4_queueUp_1 : decode cX4_queueUp 1 = .ok (.getfield 24, 3) := by decide +kernel
theorem dX4_queueUp_4 : decode cX4_queueUp 4 = .ok (.sipush 7737, 3) := by decide +kernel
theorem dX4_queueUp_7 : decode cX4_queueUp 7 = .ok (.if_icmp .ge 37, 3) := by decide +kernel
theorem dX4_queueUp_10 : decode cX4_queueUp 10 = .ok (.iload_n 1, 1) := by decide +kernel
theorem dX4_queueUp_11 : decode cX4_queueUp 11 = .ok (.invokestatic 52, 3) := by decide +kernel
theorem dX4_queueUp_14 : decode cX4_queueUp 14 = .ok (.ifCond .eq 30, 3) := by decide +kernel
theorem dX4_queueUp_17 : decode cX4_queueUp 17 = .ok (.aload_n 0, 1) := by decide +kernel
theorem dX4_queueUp_18 : decode cX4_queueUp 18 = .ok (.getfield 17, 3) := by decide +kernel
theorem dX4_queueUp_21 : decode cX4_queueUp 21 = .ok (.iload_n 1, 1) := by decide +kernel
theorem dX4_queueUp_22 : decode cX4_queueUp 22 = .ok (.iload_n 2, 1) := by decide +kernel
theorem dX4_queueUp_23 : decode cX4_queueUp 23 = .ok (.iastore, 1) := by decide +kernel
theorem dX4_queueUp_24 : decode cX4_queueUp 24 = .ok (.aload_n 0, 1) := by decide +kernel
theorem dX4_queueUp_25 : decode cX4_queueUp 25 = .ok (.getfield 11, 3) := by decide +kernel
theorem dX4_queueUp_28 : decode cX4_queueUp 28 = .ok (.aload_n 0, 1) := by decide +kernel
theorem dX4_queueUp_29 : decode cX4_queueUp 29 = .ok (.getfield 24, 3) := by decide +kernel
theorem dX4_queueUp_32 : decode cX4_queueUp 32 = .ok (.iload_n 1, 1) := by decide +kernel
theorem dX4_queueUp_33 : decode cX4_queueUp 33 = .ok (.iastore, 1) := by decide +kernel
theorem dX4_queueUp_34 : decode cX4_queueUp 34 = .ok (.aload_n 0, 1) := by decide +kernel
theorem dX4_queueUp_35 : decode cX4_queueUp 35 = .ok (.dup, 1) := by decide +kernel
theorem dX4_queueUp_36 : decode cX4_queueUp 36 = .ok (.getfield 24, 3) := by decide +kernel
theorem dX4_queueUp_39 : decode cX4_queueUp 39 = .ok (.iconst 1, 1) := by decide +kernel
theorem dX4_queueUp_40 : decode cX4_queueUp 40 = .ok (.iadd, 1) := by decide +kernel
theorem dX4_queueUp_41 : decode cX4_queueUp 41 = .ok (.putfield 24, 3) := by decide +kernel
theorem dX4_queueUp_44 : decode cX4_queueUp 44 = .ok (.return_, 1) := by decide +kernel
theorem dX4_hasLetters_0 : decode cX4_hasLetters 0 = .ok (.iload_n 0, 1) := by decide +kernel
theorem dX4_hasLetters_1 : decode cX4_hasLetters 1 = .ok (.bipush 7, 2) := by decide +kernel
theorem dX4_hasLetters_3 : decode cX4_hasLetters 3 = .ok (.invokestatic 56, 3) := by decide +kernel
theorem dX4_hasLetters_6 : decode cX4_hasLetters 6 = .ok (.iload_n 1, 1) := by decide +kernel
theorem dX4_hasLetters_7 : decode cX4_hasLetters 7 = .ok (.if_icmp .ne 7, 3) := by decide +kernel
theorem dX4_hasLetters_10 : decode cX4_hasLetters 10 = .ok (.iconst 1, 1) := by decide +kernel
theorem dX4_hasLetters_11 : decode cX4_hasLetters 11 = .ok (.goto 4, 3) := by decide +kernel
theorem dX4_hasLetters_14 : decode cX4_hasLetters 14 = .ok (.iconst 0, 1) := by decide +kernel
theorem dX4_hasLetters_15 : decode cX4_hasLetters 15 = .ok (.ireturn, 1) := by decide +kernel
theorem dX4_stepsTo_0 : decode cX4_stepsTo 0 = .ok (.iconst 0, 1) := by decide +kernel
theorem dX4_stepsTo_1 : decode cX4_stepsTo 1 = .ok (.istore_n 2, 1) := by decide +kernel
theorem dX4_stepsTo_2 : decode cX4_stepsTo 2 = .ok (.iload_n 1, 1) := by decide +kernel
theorem dX4_stepsTo_3 : decode cX4_stepsTo 3 = .ok (.istore_n 3, 1) := by decide +kernel
theorem dX4_stepsTo_4 : decode cX4_stepsTo 4 = .ok (.iload_n 3, 1) := by decide +kernel
theorem dX4_stepsTo_5 : decode cX4_stepsTo 5 = .ok (.invokestatic 52, 3) := by decide +kernel
theorem dX4_stepsTo_8 : decode cX4_stepsTo 8 = .ok (.ifCond .eq 36, 3) := by decide +kernel
theorem dX4_stepsTo_11 : decode cX4_stepsTo 11 = .ok (.aload_n 0, 1) := by decide +kernel
theorem dX4_stepsTo_12 : decode cX4_stepsTo 12 = .ok (.getfield 17, 3) := by decide +kernel
theorem dX4_stepsTo_15 : decode cX4_stepsTo 15 = .ok (.iload_n 3, 1) := by decide +kernel
theorem dX4_stepsTo_16 : decode cX4_stepsTo 16 = .ok (.iaload, 1) := by decide +kernel
theorem dX4_stepsTo_17 : decode cX4_stepsTo 17 = .ok (.ifCond .le 27, 3) := by decide +kernel
theorem dX4_stepsTo_20 : decode cX4_stepsTo 20 = .ok (.iload_n 2, 1) := by decide +kernel
theorem dX4_stepsTo_21 : decode cX4_stepsTo 21 = .ok (.sipush 7737, 3) := by decide +kernel
theorem dX4_stepsTo_24 : decode cX4_stepsTo 24 = .ok (.if_icmp .ge 20, 3) := by decide +kernel
theorem dX4_stepsTo_27 : decode cX4_stepsTo 27 = .ok (.aload_n 0, 1) := by decide +kernel
theorem dX4_stepsTo_28 : decode cX4_stepsTo 28 = .ok (.getfield 17, 3) := by decide +kernel
theorem dX4_stepsTo_31 : decode cX4_stepsTo 31 = .ok (.iload_n 3, 1) := by decide +kernel
theorem dX4_stepsTo_32 : decode cX4_stepsTo 32 = .ok (.iaload, 1) := by decide +kernel
theorem dX4_stepsTo_33 : decode cX4_stepsTo 33 = .ok (.iconst 1, 1) := by decide +kernel
theorem dX4_stepsTo_34 : decode cX4_stepsTo 34 = .ok (.isub, 1) := by decide +kernel
theorem dX4_stepsTo_35 : decode cX4_stepsTo 35 = .ok (.iconst 4, 1) := by decide +kernel
theorem dX4_stepsTo_36 : decode cX4_stepsTo 36 = .ok (.ishr, 1) := by decide +kernel
theorem dX4_stepsTo_37 : decode cX4_stepsTo 37 = .ok (.istore_n 3, 1) := by decide +kernel
theorem dX4_stepsTo_38 : decode cX4_stepsTo 38 = .ok (.iinc 2 1, 3) := by decide +kernel
theorem dX4_stepsTo_41 : decode cX4_stepsTo 41 = .ok (.goto (-37), 3) := by decide +kernel
theorem dX4_stepsTo_44 : decode cX4_stepsTo 44 = .ok (.iload_n 2, 1) := by decide +kernel
theorem dX4_stepsTo_45 : decode cX4_stepsTo 45 = .ok (.ireturn, 1) := by decide +kernel
theorem dX4_keyTo_0 : decode cX4_keyTo 0 = .ok (.iload_n 1, 1) := by decide +kernel
theorem dX4_keyTo_1 : decode cX4_keyTo 1 = .ok (.istore_n 3, 1) := by decide +kernel
theorem dX4_keyTo_2 : decode cX4_keyTo 2 = .ok (.aload_n 0, 1) := by decide +kernel
theorem dX4_keyTo_3 : decode cX4_keyTo 3 = .ok (.iload_n 1, 1) := by decide +kernel
theorem dX4_keyTo_4 : decode cX4_keyTo 4 = .ok (.invokevirtual 59, 3) := by decide +kernel
theorem dX4_keyTo_7 : decode cX4_keyTo 7 = .ok (.iconst 1, 1) := by decide +kernel
theorem dX4_keyTo_8 : decode cX4_keyTo 8 = .ok (.isub, 1) := by decide +kernel
theorem dX4_keyTo_9 : decode cX4_keyTo 9 = .ok (.istore 4, 2) := by decide +kernel
theorem dX4_keyTo_11 : decode cX4_keyTo 11 = .ok (.iload 4, 2) := by decide +kernel
theorem dX4_keyTo_13 : decode cX4_keyTo 13 = .ok (.ifCond .lt 43, 3) := by decide +kernel
theorem dX4_keyTo_16 : decode cX4_keyTo 16 = .ok (.iload_n 3, 1) := by decide +kernel
theorem dX4_keyTo_17 : decode cX4_keyTo 17 = .ok (.invokestatic 52, 3) := by decide +kernel
theorem dX4_keyTo_20 : decode cX4_keyTo 20 = .ok (.ifCond .eq 36, 3) := by decide +kernel
theorem dX4_keyTo_23 : decode cX4_keyTo 23 = .ok (.aload_n 0, 1) := by decide +kernel
theorem dX4_keyTo_24 : decode cX4_keyTo 24 = .ok (.getfield 17, 3) := by decide +kernel
theorem dX4_keyTo_27 : decode cX4_keyTo 27 = .ok (.iload_n 3, 1) := by decide +kernel
theorem dX4_keyTo_28 : decode cX4_keyTo 28 = .ok (.iaload, 1) := by decide +kernel
theorem dX4_keyTo_29 : decode cX4_keyTo 29 = .ok (.iconst 1, 1) := by decide +kernel
theorem dX4_keyTo_30 : decode cX4_keyTo 30 = .ok (.isub, 1) := by decide +kernel
theorem dX4_keyTo_31 : decode cX4_keyTo 31 = .ok (.istore 5, 2) := by decide +kernel
theorem dX4_keyTo_33 : decode cX4_keyTo 33 = .ok (.iload 4, 2) := by decide +kernel
theorem dX4_keyTo_35 : decode cX4_keyTo 35 = .ok (.iload_n 2, 1) := by decide +kernel
theorem dX4_keyTo_36 : decode cX4_keyTo 36 = .ok (.if_icmp .ne 9, 3) := by decide +kernel
theorem dX4_keyTo_39 : decode cX4_keyTo 39 = .ok (.iload 5, 2) := by decide +kernel
theorem dX4_keyTo_41 : decode cX4_keyTo 41 = .ok (.bipush 15, 2) := by decide +kernel
theorem dX4_keyTo_43 : decode cX4_keyTo 43 = .ok (.iand, 1) := by decide +kernel
theorem dX4_keyTo_44 : decode cX4_keyTo 44 = .ok (.ireturn, 1) := by decide +kernel
theorem dX4_keyTo_45 : decode cX4_keyTo 45 = .ok (.iload 5, 2) := by decide +kernel
theorem dX4_keyTo_47 : decode cX4_keyTo 47 = .ok (.iconst 4, 1) := by decide +kernel
theorem dX4_keyTo_48 : decode cX4_keyTo 48 = .ok (.ishr, 1) := by decide +kernel
theorem dX4_keyTo_49 : decode cX4_keyTo 49 = .ok (.istore_n 3, 1) := by decide +kernel
theorem dX4_keyTo_50 : decode cX4_keyTo 50 = .ok (.iinc 4 (-1), 3) := by decide +kernel
theorem dX4_keyTo_53 : decode cX4_keyTo 53 = .ok (.goto (-42), 3) := by decide +kernel
theorem dX4_keyTo_56 : decode cX4_keyTo 56 = .ok (.bipush (-9), 2) := by decide +kernel
theorem dX4_keyTo_58 : decode cX4_keyTo 58 = .ok (.ireturn, 1) := by decide +kernel
theorem dX4_aheadOfRound_0 : decode cX4_aheadOfRound 0 = .ok (.aload_n 0, 1) := by decide +kernel
theorem dX4_aheadOfRound_1 : decode cX4_aheadOfRound 1 = .ok (.aload_n 0, 1) := by decide +kernel
theorem dX4_aheadOfRound_2 : decode cX4_aheadOfRound 2 = .ok (.aload_n 1, 1) := by decide +kernel
theorem dX4_aheadOfRound_3 : decode cX4_aheadOfRound 3 = .ok (.iload_n 2, 1) := by decide +kernel
theorem dX4_aheadOfRound_4 : decode cX4_aheadOfRound 4 = .ok (.iload_n 3, 1) := by decide +kernel
theorem dX4_aheadOfRound_5 : decode cX4_aheadOfRound 5 = .ok (.invokevirtual 63, 3) := by decide +kernel
theorem dX4_aheadOfRound_8 : decode cX4_aheadOfRound 8 = .ok (.invokevirtual 67, 3) := by decide +kernel
theorem dX4_aheadOfRound_11 : decode cX4_aheadOfRound 11 = .ok (.ireturn, 1) := by decide +kernel
theorem dX4_round_0 : decode cX4_round 0 = .ok (.aload_n 0, 1) := by decide +kernel
theorem dX4_round_1 : decode cX4_round 1 = .ok (.aload_n 1, 1) := by decide +kernel
theorem dX4_round_2 : decode cX4_round 2 = .ok (.iload_n 2, 1) := by decide +kernel
theorem dX4_round_3 : decode cX4_round 3 = .ok (.iload_n 3, 1) := by decide +kernel
theorem dX4_round_4 : decode cX4_round 4 = .ok (.invokevirtual 63, 3) := by decide +kernel
theorem dX4_round_7 : decode cX4_round 7 = .ok (.istore 4, 2) := by decide +kernel
theorem dX4_round_9 : decode cX4_round 9 = .ok (.aload_n 0, 1) := by decide +kernel
theorem dX4_round_10 : decode cX4_round 10 = .ok (.getfield 24, 3) := by decide +kernel
theorem dX4_round_13 : decode cX4_round 13 = .ok (.aload_n 0, 1) := by decide +kernel
theorem dX4_round_14 : decode cX4_round 14 = .ok (.iload 4, 2) := by decide +kernel
theorem dX4_round_16 : decode cX4_round 16 = .ok (.invokevirtual 67, 3) := by decide +kernel
theorem dX4_round_19 : decode cX4_round 19 = .ok (.isub, 1) := by decide +kernel
theorem dX4_round_20 : decode cX4_round 20 = .ok (.ireturn, 1) := by decide +kernel
theorem dX4_playsTo_0 : decode cX4_playsTo 0 = .ok (.iload_n 1, 1) := by decide +kernel
theorem dX4_playsTo_1 : decode cX4_playsTo 1 = .ok (.invokestatic 52, 3) := by decide +kernel
theorem dX4_playsTo_4 : decode cX4_playsTo 4 = .ok (.ifCond .eq 14, 3) := by decide +kernel
theorem dX4_playsTo_7 : decode cX4_playsTo 7 = .ok (.aload_n 0, 1) := by decide +kernel
theorem dX4_playsTo_8 : decode cX4_playsTo 8 = .ok (.getfield 17, 3) := by decide +kernel
theorem dX4_playsTo_11 : decode cX4_playsTo 11 = .ok (.iload_n 1, 1) := by decide +kernel
theorem dX4_playsTo_12 : decode cX4_playsTo 12 = .ok (.iaload, 1) := by decide +kernel
theorem dX4_playsTo_13 : decode cX4_playsTo 13 = .ok (.iconst 1, 1) := by decide +kernel
theorem dX4_playsTo_14 : decode cX4_playsTo 14 = .ok (.isub, 1) := by decide +kernel
theorem dX4_playsTo_15 : decode cX4_playsTo 15 = .ok (.goto 4, 3) := by decide +kernel
theorem dX4_playsTo_18 : decode cX4_playsTo 18 = .ok (.iconst 0, 1) := by decide +kernel
theorem dX4_playsTo_19 : decode cX4_playsTo 19 = .ok (.ireturn, 1) := by decide +kernel
theorem dX4_playOn_0 : decode cX4_playOn 0 = .ok (.aload_n 0, 1) := by decide +kernel
theorem dX4_playOn_1 : decode cX4_playOn 1 = .ok (.getfield 17, 3) := by decide +kernel
theorem dX4_playOn_4 : decode cX4_playOn 4 = .ok (.iconst 0, 1) := by decide +kernel
theorem dX4_playOn_5 : decode cX4_playOn 5 = .ok (.invokestatic 28, 3) := by decide +kernel
theorem dX4_playOn_8 : decode cX4_playOn 8 = .ok (.aload_n 0, 1) := by decide +kernel
theorem dX4_playOn_9 : decode cX4_playOn 9 = .ok (.iconst 0, 1) := by decide +kernel
theorem dX4_playOn_10 : decode cX4_playOn 10 = .ok (.putfield 24, 3) := by decide +kernel
theorem dX4_playOn_13 : decode cX4_playOn 13 = .ok (.iload_n 2, 1) := by decide +kernel
theorem dX4_playOn_14 : decode cX4_playOn 14 = .ok (.istore 4, 2) := by decide +kernel
theorem dX4_playOn_16 : decode cX4_playOn 16 = .ok (.iload 4, 2) := by decide +kernel
theorem dX4_playOn_18 : decode cX4_playOn 18 = .ok (.invokestatic 52, 3) := by decide +kernel
theorem dX4_playOn_21 : decode cX4_playOn 21 = .ok (.ifCond .eq 59, 3) := by decide +kernel
theorem dX4_playOn_24 : decode cX4_playOn 24 = .ok (.aload_n 0, 1) := by decide +kernel
theorem dX4_playOn_25 : decode cX4_playOn 25 = .ok (.getfield 17, 3) := by decide +kernel
theorem dX4_playOn_28 : decode cX4_playOn 28 = .ok (.iload 4, 2) := by decide +kernel
theorem dX4_playOn_30 : decode cX4_playOn 30 = .ok (.iaload, 1) := by decide +kernel
theorem dX4_playOn_31 : decode cX4_playOn 31 = .ok (.ifCond .ne 49, 3) := by decide +kernel
theorem dX4_playOn_34 : decode cX4_playOn 34 = .ok (.aload_n 0, 1) := by decide +kernel
theorem dX4_playOn_35 : decode cX4_playOn 35 = .ok (.getfield 24, 3) := by decide +kernel
theorem dX4_playOn_38 : decode cX4_playOn 38 = .ok (.sipush 7737, 3) := by decide +kernel
theorem dX4_playOn_41 : decode cX4_playOn 41 = .ok (.if_icmp .ge 39, 3) := by decide +kernel
theorem dX4_playOn_44 : decode cX4_playOn 44 = .ok (.aload_n 0, 1) := by decide +kernel
theorem dX4_playOn_45 : decode cX4_playOn 45 = .ok (.dup, 1) := by decide +kernel
theorem dX4_playOn_46 : decode cX4_playOn 46 = .ok (.getfield 24, 3) := by decide +kernel
theorem dX4_playOn_49 : decode cX4_playOn 49 = .ok (.iconst 1, 1) := by decide +kernel
theorem dX4_playOn_50 : decode cX4_playOn 50 = .ok (.iadd, 1) := by decide +kernel
theorem dX4_playOn_51 : decode cX4_playOn 51 = .ok (.putfield 24, 3) := by decide +kernel
theorem dX4_playOn_54 : decode cX4_playOn 54 = .ok (.aload_n 0, 1) := by decide +kernel
theorem dX4_playOn_55 : decode cX4_playOn 55 = .ok (.getfield 17, 3) := by decide +kernel
theorem dX4_playOn_58 : decode cX4_playOn 58 = .ok (.iload 4, 2) := by decide +kernel
theorem dX4_playOn_60 : decode cX4_playOn 60 = .ok (.aload_n 0, 1) := by decide +kernel
theorem dX4_playOn_61 : decode cX4_playOn 61 = .ok (.getfield 24, 3) := by decide +kernel
theorem dX4_playOn_64 : decode cX4_playOn 64 = .ok (.iastore, 1) := by decide +kernel
theorem dX4_playOn_65 : decode cX4_playOn 65 = .ok (.aload_n 1, 1) := by decide +kernel
theorem dX4_playOn_66 : decode cX4_playOn 66 = .ok (.iload 4, 2) := by decide +kernel
theorem dX4_playOn_68 : decode cX4_playOn 68 = .ok (.bipush 8, 2) := by decide +kernel
theorem dX4_playOn_70 : decode cX4_playOn 70 = .ok (.iload_n 3, 1) := by decide +kernel
theorem dX4_playOn_71 : decode cX4_playOn 71 = .ok (.iadd, 1) := by decide +kernel
theorem dX4_playOn_72 : decode cX4_playOn 72 = .ok (.invokevirtual 48, 3) := by decide +kernel
theorem dX4_playOn_75 : decode cX4_playOn 75 = .ok (.istore 4, 2) := by decide +kernel
theorem dX4_playOn_77 : decode cX4_playOn 77 = .ok (.goto (-61), 3) := by decide +kernel
theorem dX4_playOn_80 : decode cX4_playOn 80 = .ok (.iload 4, 2) := by decide +kernel
theorem dX4_playOn_82 : decode cX4_playOn 82 = .ok (.ireturn, 1) := by decide +kernel
theorem dX5_init_0 : decode cX5_init 0 = .ok (.aload_n 0, 1) := by decide +kernel
theorem dX5_init_1 : decode cX5_init 1 = .ok (.invokespecial 3, 3) := by decide +kernel
theorem dX5_init_4 : decode cX5_init 4 = .ok (.aload_n 0, 1) := by decide +kernel
theorem dX5_init_5 : decode cX5_init 5 = .ok (.iconst (-1), 1) := by decide +kernel
theorem dX5_init_6 : decode cX5_init 6 = .ok (.putfield 9, 3) := by decide +kernel
theorem dX5_init_9 : decode cX5_init 9 = .ok (.aload_n 0, 1) := by decide +kernel
theorem dX5_init_10 : decode cX5_init 10 = .ok (.bipush 60, 2) := by decide +kernel
theorem dX5_init_12 : decode cX5_init 12 = .ok (.newarray .int, 2) := by decide +kernel
theorem dX5_init_14 : decode cX5_init 14 = .ok (.putfield 15, 3) := by decide +kernel
theorem dX5_init_17 : decode cX5_init 17 = .ok (.return_, 1) := by decide +kernel
theorem dX5_renew_0 : decode cX5_renew 0 = .ok (.aload_n 0, 1) := by decide +kernel
theorem dX5_renew_1 : decode cX5_renew 1 = .ok (.iload_n 1, 1) := by decide +kernel
theorem dX5_renew_2 : decode cX5_renew 2 = .ok (.putfield 9, 3) := by decide +kernel
theorem dX5_renew_5 : decode cX5_renew 5 = .ok (.aload_n 0, 1) := by decide +kernel
theorem dX5_renew_6 : decode cX5_renew 6 = .ok (.iload_n 2, 1) := by decide +kernel
theorem dX5_renew_7 : decode cX5_renew 7 = .ok (.putfield 19, 3) := by decide +kernel
theorem dX5_renew_10 : decode cX5_renew 10 = .ok (.aload_n 0, 1) := by decide +kernel
theorem dX5_renew_11 : decode cX5_renew 11 = .ok (.getfield 15, 3) := by decide +kernel
theorem dX5_renew_14 : decode cX5_renew 14 = .ok (.iconst 0, 1) := by decide +kernel
theorem dX5_renew_15 : decode cX5_renew 15 = .ok (.invokestatic 22, 3) := by decide +kernel
theorem dX5_renew_18 : decode cX5_renew 18 = .ok (.return_, 1) := by decide +kernel
theorem dX5_faultOf_0 : decode cX5_faultOf 0 = .ok (.aload_n 0, 1) := by decide +kernel
theorem dX5_faultOf_1 : decode cX5_faultOf 1 = .ok (.getfield 9, 3) := by decide +kernel
theorem dX5_faultOf_4 : decode cX5_faultOf 4 = .ok (.iconst (-1), 1) := by decide +kernel
theorem dX5_faultOf_5 : decode cX5_faultOf 5 = .ok (.if_icmp .ne 5, 3) := by decide +kernel
theorem dX5_faultOf_8 : decode cX5_faultOf 8 = .ok (.iconst 1, 1) := by decide +kernel
theorem dX5_faultOf_9 : decode cX5_faultOf 9 = .ok (.ireturn, 1) := by decide +kernel
theorem dX5_faultOf_10 : decode cX5_faultOf 10 = .ok (.aload_n 0, 1) := by decide +kernel
theorem dX5_faultOf_11 : decode cX5_faultOf 11 = .ok (.getfield 9, 3) := by decide +kernel
theorem dX5_faultOf_14 : decode cX5_faultOf 14 = .ok (.iload_n 1, 1) := by decide +kernel
theorem dX5_faultOf_15 : decode cX5_faultOf 15 = .ok (.if_icmp .eq 5, 3) := by decide +kernel
theorem dX5_faultOf_18 : decode cX5_faultOf 18 = .ok (.iconst 2, 1) := by decide +kernel
theorem dX5_faultOf_19 : decode cX5_faultOf 19 = .ok (.ireturn, 1) := by decide +kernel
theorem dX5_faultOf_20 : decode cX5_faultOf 20 = .ok (.iload_n 3, 1) := by decide +kernel
theorem dX5_faultOf_21 : decode cX5_faultOf 21 = .ok (.ifCond .ge 5, 3) := by decide +kernel
theorem dX5_faultOf_24 : decode cX5_faultOf 24 = .ok (.iconst 4, 1) := by decide +kernel
theorem dX5_faultOf_25 : decode cX5_faultOf 25 = .ok (.ireturn, 1) := by decide +kernel
theorem dX5_faultOf_26 : decode cX5_faultOf 26 = .ok (.aload_n 0, 1) := by decide +kernel
theorem dX5_faultOf_27 : decode cX5_faultOf 27 = .ok (.iload_n 2, 1) := by decide +kernel
theorem dX5_faultOf_28 : decode cX5_faultOf 28 = .ok (.iload_n 3, 1) := by decide +kernel
theorem dX5_faultOf_29 : decode cX5_faultOf 29 = .ok (.invokevirtual 28, 3) := by decide +kernel
theorem dX5_faultOf_32 : decode cX5_faultOf 32 = .ok (.ifCond .eq 7, 3) := by decide +kernel
theorem dX5_faultOf_35 : decode cX5_faultOf 35 = .ok (.iconst 0, 1) := by decide +kernel
theorem dX5_faultOf_36 : decode cX5_faultOf 36 = .ok (.goto 4, 3) := by decide +kernel
theorem dX5_faultOf_39 : decode cX5_faultOf 39 = .ok (.iconst 3, 1) := by decide +kernel
theorem dX5_faultOf_40 : decode cX5_faultOf 40 = .ok (.ireturn, 1) := by decide +kernel
theorem dX5_hasAll_0 : decode cX5_hasAll 0 = .ok (.iload_n 2, 1) := by decide +kernel
theorem dX5_hasAll_1 : decode cX5_hasAll 1 = .ok (.ifCond .lt 29, 3) := by decide +kernel
theorem dX5_hasAll_4 : decode cX5_hasAll 4 = .ok (.iload_n 1, 1) := by decide +kernel
theorem dX5_hasAll_5 : decode cX5_hasAll 5 = .ok (.ifCond .lt 25, 3) := by decide +kernel
theorem dX5_hasAll_8 : decode cX5_hasAll 8 = .ok (.iload_n 2, 1) := by decide +kernel
theorem dX5_hasAll_9 : decode cX5_hasAll 9 = .ok (.aload_n 0, 1) := by decide +kernel
theorem dX5_hasAll_10 : decode cX5_hasAll 10 = .ok (.getfield 19, 3) := by decide +kernel
theorem dX5_hasAll_13 : decode cX5_hasAll 13 = .ok (.if_icmp .gt 17, 3) := by decide +kernel
theorem dX5_hasAll_16 : decode cX5_hasAll 16 = .ok (.iload_n 1, 1) := by decide +kernel
theorem dX5_hasAll_17 : decode cX5_hasAll 17 = .ok (.aload_n 0, 1) := by decide +kernel
theorem dX5_hasAll_18 : decode cX5_hasAll 18 = .ok (.getfield 19, 3) := by decide +kernel
theorem dX5_hasAll_21 : decode cX5_hasAll 21 = .ok (.iload_n 2, 1) := by decide +kernel
theorem dX5_hasAll_22 : decode cX5_hasAll 22 = .ok (.isub, 1) := by decide +kernel
theorem dX5_hasAll_23 : decode cX5_hasAll 23 = .ok (.if_icmp .gt 7, 3) := by decide +kernel
theorem dX5_hasAll_26 : decode cX5_hasAll 26 = .ok (.iconst 1, 1) := by decide +kernel
theorem dX5_hasAll_27 : decode cX5_hasAll 27 = .ok (.goto 4, 3) := by decide +kernel
theorem dX5_hasAll_30 : decode cX5_hasAll 30 = .ok (.iconst 0, 1) := by decide +kernel
theorem dX5_hasAll_31 : decode cX5_hasAll 31 = .ok (.ireturn, 1) := by decide +kernel
theorem dX5_allWithin_0 : decode cX5_allWithin 0 = .ok (.iconst 0, 1) := by decide +kernel
theorem dX5_allWithin_1 : decode cX5_allWithin 1 = .ok (.istore 4, 2) := by decide +kernel
theorem dX5_allWithin_3 : decode cX5_allWithin 3 = .ok (.iload 4, 2) := by decide +kernel
theorem dX5_allWithin_5 : decode cX5_allWithin 5 = .ok (.iload_n 2, 1) := by decide +kernel
theorem dX5_allWithin_6 : decode cX5_allWithin 6 = .ok (.if_icmp .ge 33, 3) := by decide +kernel
theorem dX5_allWithin_9 : decode cX5_allWithin 9 = .ok (.aload_n 0, 1) := by decide +kernel
theorem dX5_allWithin_10 : decode cX5_allWithin 10 = .ok (.getfield 15, 3) := by decide +kernel
theorem dX5_allWithin_13 : decode cX5_allWithin 13 = .ok (.iload_n 1, 1) := by decide +kernel
theorem dX5_allWithin_14 : decode cX5_allWithin 14 = .ok (.iload 4, 2) := by decide +kernel
theorem dX5_allWithin_16 : decode cX5_allWithin 16 = .ok (.iadd, 1) := by decide +kernel
theorem dX5_allWithin_17 : decode cX5_allWithin 17 = .ok (.iaload, 1) := by decide +kernel
theorem dX5_allWithin_18 : decode cX5_allWithin 18 = .ok (.istore 5, 2) := by decide +kernel
theorem dX5_allWithin_20 : decode cX5_allWithin 20 = .ok (.iload 5, 2) := by decide +kernel
theorem dX5_allWithin_22 : decode cX5_allWithin 22 = .ok (.ifCond .lt 9, 3) := by decide +kernel
theorem dX5_allWithin_25 : decode cX5_allWithin 25 = .ok (.iload 5, 2) := by decide +kernel
theorem dX5_allWithin_27 : decode cX5_allWithin 27 = .ok (.iload_n 3, 1) := by decide +kernel
theorem dX5_allWithin_28 : decode cX5_allWithin 28 = .ok (.if_icmp .le 5, 3) := by decide +kernel
theorem dX5_allWithin_31 : decode cX5_allWithin 31 = .ok (.iconst 0, 1) := by decide +kernel
theorem dX5_allWithin_32 : decode cX5_allWithin 32 = .ok (.ireturn, 1) := by decide +kernel
theorem dX5_allWithin_33 : decode cX5_allWithin 33 = .ok (.iinc 4 1, 3) := by decide +kernel
theorem dX5_allWithin_36 : decode cX5_allWithin 36 = .ok (.goto (-33), 3) := by decide +kernel
theorem dX5_allWithin_39 : decode cX5_allWithin 39 = .ok (.iconst 1, 1) := by decide +kernel
theorem dX5_allWithin_40 : decode cX5_allWithin 40 = .ok (.ireturn, 1) := by decide +kernel
theorem dX5_cut_0 : decode cX5_cut 0 = .ok (.aload_n 0, 1) := by decide +kernel
theorem dX5_cut_1 : decode cX5_cut 1 = .ok (.getfield 9, 3) := by decide +kernel
theorem dX5_cut_4 : decode cX5_cut 4 = .ok (.lookupswitch 34 #[(0, 28), (1, 31)], 28) := by decide +kernel
theorem dX5_cut_32 : decode cX5_cut 32 = .ok (.iload_n 1, 1) := by decide +kernel
theorem dX5_cut_33 : decode cX5_cut 33 = .ok (.i2b, 1) := by decide +kernel
theorem dX5_cut_34 : decode cX5_cut 34 = .ok (.ireturn, 1) := by decide +kernel
theorem dX5_cut_35 : decode cX5_cut 35 = .ok (.iload_n 1, 1) := by decide +kernel
theorem dX5_cut_36 : decode cX5_cut 36 = .ok (.i2s, 1) := by decide +kernel
theorem dX5_cut_37 : decode cX5_cut 37 = .ok (.ireturn, 1) := by decide +kernel
theorem dX5_cut_38 : decode cX5_cut 38 = .ok (.iload_n 1, 1) := by decide +kernel
theorem dX5_cut_39 : decode cX5_cut 39 = .ok (.ireturn, 1) := by decide +kernel
theorem dX6_init_0 : decode cX6_init 0 = .ok (.aload_n 0, 1) := by decide +kernel
theorem dX6_init_1 : decode cX6_init 1 = .ok (.invokespecial 3, 3) := by decide +kernel
theorem dX6_init_4 : decode cX6_init 4 = .ok (.aload_n 0, 1) := by decide +kernel
theorem dX6_init_5 : decode cX6_init 5 = .ok (.new 9, 3) := by decide +kernel
theorem dX6_init_8 : decode cX6_init 8 = .ok (.dup, 1) := by decide +kernel
theorem dX6_init_9 : decode cX6_init 9 = .ok (.invokespecial 11, 3) := by decide +kernel
theorem dX6_init_12 : decode cX6_init 12 = .ok (.putfield 12, 3) := by decide +kernel
theorem dX6_init_15 : decode cX6_init 15 = .ok (.aload_n 0, 1) := by decide +kernel
theorem dX6_init_16 : decode cX6_init 16 = .ok (.new 18, 3) := by decide +kernel
theorem dX6_init_19 : decode cX6_init 19 = .ok (.dup, 1) := by decide +kernel
theorem dX6_init_20 : decode cX6_init 20 = .ok (.invokespecial 20, 3) := by decide +kernel
theorem dX6_init_23 : decode cX6_init 23 = .ok (.putfield 21, 3) := by decide +kernel
theorem dX6_init_26 : decode cX6_init 26 = .ok (.aload_n 0, 1) := by decide +kernel
theorem dX6_init_27 : decode cX6_init 27 = .ok (.new 25, 3) := by decide +kernel
theorem dX6_init_30 : decode cX6_init 30 = .ok (.dup, 1) := by decide +kernel
theorem dX6_init_31 : decode cX6_init 31 = .ok (.invokespecial 27, 3) := by decide +kernel
theorem dX6_init_34 : decode cX6_init 34 = .ok (.putfield 28, 3) := by decide +kernel
theorem dX6_init_37 : decode cX6_init 37 = .ok (.aload_n 0, 1) := by decide +kernel
theorem dX6_init_38 : decode cX6_init 38 = .ok (.iconst 4, 1) := by decide +kernel
theorem dX6_init_39 : decode cX6_init 39 = .ok (.anewarray 32, 3) := by decide +kernel
theorem dX6_init_42 : decode cX6_init 42 = .ok (.dup, 1) := by decide +kernel
theorem dX6_init_43 : decode cX6_init 43 = .ok (.iconst 0, 1) := by decide +kernel
theorem dX6_init_44 : decode cX6_init 44 = .ok (.new 32, 3) := by decide +kernel
theorem dX6_init_47 : decode cX6_init 47 = .ok (.dup, 1) := by decide +kernel
theorem dX6_init_48 : decode cX6_init 48 = .ok (.invokespecial 34, 3) := by decide +kernel
theorem dX6_init_51 : decode cX6_init 51 = .ok (.aastore, 1) := by decide +kernel
theorem dX6_init_52 : decode cX6_init 52 = .ok (.dup, 1) := by decide +kernel
theorem dX6_init_53 : decode cX6_init 53 = .ok (.iconst 1, 1) := by decide +kernel
theorem dX6_init_54 : decode cX6_init 54 = .ok (.new 32, 3) := by decide +kernel
theorem dX6_init_57 : decode cX6_init 57 = .ok (.dup, 1) := by decide +kernel
theorem dX6_init_58 : decode cX6_init 58 = .ok (.invokespecial 34, 3) := by decide +kernel
theorem dX6_init_61 : decode cX6_init 61 = .ok (.aastore, 1) := by decide +kernel
theorem dX6_init_62 : decode cX6_init 62 = .ok (.dup, 1) := by decide +kernel
theorem dX6_init_63 : decode cX6_init 63 = .ok (.iconst 2, 1) := by decide +kernel
theorem dX6_init_64 : decode cX6_init 64 = .ok (.new 32, 3) := by decide +kernel
theorem dX6_init_67 : decode cX6_init 67 = .ok (.dup, 1) := by decide +kernel
theorem dX6_init_68 : decode cX6_init 68 = .ok (.invokespecial 34, 3) := by decide +kernel
theorem dX6_init_71 : decode cX6_init 71 = .ok (.aastore, 1) := by decide +kernel
theorem dX6_init_72 : decode cX6_init 72 = .ok (.dup, 1) := by decide +kernel
theorem dX6_init_73 : decode cX6_init 73 = .ok (.iconst 3, 1) := by decide +kernel
theorem dX6_init_74 : decode cX6_init 74 = .ok (.new 32, 3) := by decide +kernel
theorem dX6_init_77 : decode cX6_init 77 = .ok (.dup, 1) := by decide +kernel
theorem dX6_init_78 : decode cX6_init 78 = .ok (.invokespecial 34, 3) := by decide +kernel
theorem dX6_init_81 : decode cX6_init 81 = .ok (.aastore, 1) := by decide +kernel
theorem dX6_init_82 : decode cX6_init 82 = .ok (.putfield 35, 3) := by decide +kernel
theorem dX6_init_85 : decode cX6_init 85 = .ok (.aload_n 0, 1) := by decide +kernel
theorem dX6_init_86 : decode cX6_init 86 = .ok (.bipush 8, 2) := by decide +kernel
theorem dX6_init_88 : decode cX6_init 88 = .ok (.newarray .int, 2) := by decide +kernel
theorem dX6_init_90 : decode cX6_init 90 = .ok (.putfield 39, 3) := by decide +kernel
theorem dX6_init_93 : decode cX6_init 93 = .ok (.aload_n 0, 1) := by decide +kernel
theorem dX6_init_94 : decode cX6_init 94 = .ok (.bipush 8, 2) := by decide +kernel
theorem dX6_init_96 : decode cX6_init 96 = .ok (.newarray .int, 2) := by decide +kernel
theorem dX6_init_98 : decode cX6_init 98 = .ok (.putfield 43, 3) := by decide +kernel
theorem dX6_init_101 : decode cX6_init 101 = .ok (.aload_n 0, 1) := by decide +kernel
theorem dX6_init_102 : decode cX6_init 102 = .ok (.iconst 0, 1) := by decide +kernel
theorem dX6_init_103 : decode cX6_init 103 = .ok (.putfield 48, 3) := by decide +kernel
theorem dX6_init_106 : decode cX6_init 106 = .ok (.aload_n 0, 1) := by decide +kernel

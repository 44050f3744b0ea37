theorem dX6_init_107 : decode cX6_init 107 = .ok (.iconst 0, 1) := by decide +kernel
theorem dX6_init_108 : decode cX6_init 108 = .ok (.putfield 52, 3) := by decide +kernel
theorem dX6_init_111 : decode cX6_init 111 = .ok (.return_, 1) := by decide +kernel
theorem dX6_macros_0 : decode cX6_macros 0 = .ok (.aload_n 0, 1) := by decide +kernel
theorem dX6_macros_1 : decode cX6_macros 1 = .ok (.iconst 0, 1) := by decide +kernel
theorem dX6_macros_2 : decode cX6_macros 2 = .ok (.putfield 52, 3) := by decide +kernel
theorem dX6_macros_5 : decode cX6_macros 5 = .ok (.aload_n 0, 1) := by decide +kernel
theorem dX6_macros_6 : decode cX6_macros 6 = .ok (.iload_n 1, 1) := by decide +kernel
theorem dX6_macros_7 : decode cX6_macros 7 = .ok (.invokevirtual 55, 3) := by decide +kernel
theorem dX6_macros_10 : decode cX6_macros 10 = .ok (.astore 5, 2) := by decide +kernel
theorem dX6_macros_12 : decode cX6_macros 12 = .ok (.aload 5, 2) := by decide +kernel
theorem dX6_macros_14 : decode cX6_macros 14 = .ok (.ifnonnull 5, 3) := by decide +kernel
theorem dX6_macros_17 : decode cX6_macros 17 = .ok (.iconst (-1), 1) := by decide +kernel
theorem dX6_macros_18 : decode cX6_macros 18 = .ok (.ireturn, 1) := by decide +kernel
theorem dX6_macros_19 : decode cX6_macros 19 = .ok (.iload_n 2, 1) := by decide +kernel
theorem dX6_macros_20 : decode cX6_macros 20 = .ok (.invokestatic 59, 3) := by decide +kernel
theorem dX6_macros_23 : decode cX6_macros 23 = .ok (.ifCond .ne 6, 3) := by decide +kernel
theorem dX6_macros_26 : decode cX6_macros 26 = .ok (.bipush (-2), 2) := by decide +kernel
theorem dX6_macros_28 : decode cX6_macros 28 = .ok (.ireturn, 1) := by decide +kernel
theorem dX6_macros_29 : decode cX6_macros 29 = .ok (.aload 5, 2) := by decide +kernel
theorem dX6_macros_31 : decode cX6_macros 31 = .ok (.iload_n 2, 1) := by decide +kernel
theorem dX6_macros_32 : decode cX6_macros 32 = .ok (.iload_n 3, 1) := by decide +kernel
theorem dX6_macros_33 : decode cX6_macros 33 = .ok (.iload 4, 2) := by decide +kernel
theorem dX6_macros_35 : decode cX6_macros 35 = .ok (.invokevirtual 63, 3) := by decide +kernel
theorem dX6_macros_38 : decode cX6_macros 38 = .ok (.istore 6, 2) := by decide +kernel
theorem dX6_macros_40 : decode cX6_macros 40 = .ok (.iload 6, 2) := by decide +kernel
theorem dX6_macros_42 : decode cX6_macros 42 = .ok (.ifCond .eq 10, 3) := by decide +kernel
theorem dX6_macros_45 : decode cX6_macros 45 = .ok (.aload_n 0, 1) := by decide +kernel
theorem dX6_macros_46 : decode cX6_macros 46 = .ok (.iload 6, 2) := by decide +kernel
theorem dX6_macros_48 : decode cX6_macros 48 = .ok (.invokevirtual 67, 3) := by decide +kernel
theorem dX6_macros_51 : decode cX6_macros 51 = .ok (.ireturn, 1) := by decide +kernel
theorem dX6_macros_52 : decode cX6_macros 52 = .ok (.aload_n 0, 1) := by decide +kernel
theorem dX6_macros_53 : decode cX6_macros 53 = .ok (.getfield 21, 3) := by decide +kernel
theorem dX6_macros_56 : decode cX6_macros 56 = .ok (.aload 5, 2) := by decide +kernel
theorem dX6_macros_58 : decode cX6_macros 58 = .ok (.iload_n 3, 1) := by decide +kernel
theorem dX6_macros_59 : decode cX6_macros 59 = .ok (.iload 4, 2) := by decide +kernel
theorem dX6_macros_61 : decode cX6_macros 61 = .ok (.invokevirtual 71, 3) := by decide +kernel
theorem dX6_macros_64 : decode cX6_macros 64 = .ok (.istore 7, 2) := by decide +kernel
theorem dX6_macros_66 : decode cX6_macros 66 = .ok (.iload 7, 2) := by decide +kernel
theorem dX6_macros_68 : decode cX6_macros 68 = .ok (.bipush (-9), 2) := by decide +kernel
theorem dX6_macros_70 : decode cX6_macros 70 = .ok (.if_icmp .eq 9, 3) := by decide +kernel
theorem dX6_macros_73 : decode cX6_macros 73 = .ok (.bipush (-100), 2) := by decide +kernel
theorem dX6_macros_75 : decode cX6_macros 75 = .ok (.iload 7, 2) := by decide +kernel
theorem dX6_macros_77 : decode cX6_macros 77 = .ok (.isub, 1) := by decide +kernel
theorem dX6_macros_78 : decode cX6_macros 78 = .ok (.ireturn, 1) := by decide +kernel
theorem dX6_macros_79 : decode cX6_macros 79 = .ok (.aload_n 0, 1) := by decide +kernel
theorem dX6_macros_80 : decode cX6_macros 80 = .ok (.getfield 12, 3) := by decide +kernel
theorem dX6_macros_83 : decode cX6_macros 83 = .ok (.aload_n 0, 1) := by decide +kernel
theorem dX6_macros_84 : decode cX6_macros 84 = .ok (.getfield 21, 3) := by decide +kernel
theorem dX6_macros_87 : decode cX6_macros 87 = .ok (.invokevirtual 75, 3) := by decide +kernel
theorem dX6_macros_90 : decode cX6_macros 90 = .ok (.aload_n 0, 1) := by decide +kernel
theorem dX6_macros_91 : decode cX6_macros 91 = .ok (.iconst 0, 1) := by decide +kernel
theorem dX6_macros_92 : decode cX6_macros 92 = .ok (.putfield 48, 3) := by decide +kernel
theorem dX6_macros_95 : decode cX6_macros 95 = .ok (.aload_n 0, 1) := by decide +kernel
theorem dX6_macros_96 : decode cX6_macros 96 = .ok (.iconst 0, 1) := by decide +kernel
theorem dX6_macros_97 : decode cX6_macros 97 = .ok (.putfield 79, 3) := by decide +kernel
theorem dX6_macros_100 : decode cX6_macros 100 = .ok (.aload_n 0, 1) := by decide +kernel
theorem dX6_macros_101 : decode cX6_macros 101 = .ok (.iconst 0, 1) := by decide +kernel
theorem dX6_macros_102 : decode cX6_macros 102 = .ok (.putfield 82, 3) := by decide +kernel
theorem dX6_macros_105 : decode cX6_macros 105 = .ok (.aload_n 0, 1) := by decide +kernel
theorem dX6_macros_106 : decode cX6_macros 106 = .ok (.getfield 12, 3) := by decide +kernel
theorem dX6_macros_109 : decode cX6_macros 109 = .ok (.getfield 85, 3) := by decide +kernel
theorem dX6_macros_112 : decode cX6_macros 112 = .ok (.ireturn, 1) := by decide +kernel
theorem dX6_ofMacro_0 : decode cX6_ofMacro 0 = .ok (.aload_n 0, 1) := by decide +kernel
theorem dX6_ofMacro_1 : decode cX6_ofMacro 1 = .ok (.getfield 12, 3) := by decide +kernel
theorem dX6_ofMacro_4 : decode cX6_ofMacro 4 = .ok (.iload_n 1, 1) := by decide +kernel
theorem dX6_ofMacro_5 : decode cX6_ofMacro 5 = .ok (.invokevirtual 88, 3) := by decide +kernel
theorem dX6_ofMacro_8 : decode cX6_ofMacro 8 = .ok (.astore_n 3, 1) := by decide +kernel
theorem dX6_ofMacro_9 : decode cX6_ofMacro 9 = .ok (.aload_n 3, 1) := by decide +kernel
theorem dX6_ofMacro_10 : decode cX6_ofMacro 10 = .ok (.ifnonnull 5, 3) := by decide +kernel
theorem dX6_ofMacro_13 : decode cX6_ofMacro 13 = .ok (.iconst (-1), 1) := by decide +kernel
theorem dX6_ofMacro_14 : decode cX6_ofMacro 14 = .ok (.ireturn, 1) := by decide +kernel
theorem dX6_ofMacro_15 : decode cX6_ofMacro 15 = .ok (.iload_n 2, 1) := by decide +kernel
theorem dX6_ofMacro_16 : decode cX6_ofMacro 16 = .ok (.tableswitch 65 0 4 #[36, 41, 46, 51, 56], 36) := by decide +kernel
theorem dX6_ofMacro_52 : decode cX6_ofMacro 52 = .ok (.aload_n 3, 1) := by decide +kernel
theorem dX6_ofMacro_53 : decode cX6_ofMacro 53 = .ok (.getfield 92, 3) := by decide +kernel
theorem dX6_ofMacro_56 : decode cX6_ofMacro 56 = .ok (.ireturn, 1) := by decide +kernel
theorem dX6_ofMacro_57 : decode cX6_ofMacro 57 = .ok (.aload_n 3, 1) := by decide +kernel
theorem dX6_ofMacro_58 : decode cX6_ofMacro 58 = .ok (.getfield 97, 3) := by decide +kernel
theorem dX6_ofMacro_61 : decode cX6_ofMacro 61 = .ok (.ireturn, 1) := by decide +kernel
theorem dX6_ofMacro_62 : decode cX6_ofMacro 62 = .ok (.aload_n 3, 1) := by decide +kernel
theorem dX6_ofMacro_63 : decode cX6_ofMacro 63 = .ok (.invokevirtual 100, 3) := by decide +kernel
theorem dX6_ofMacro_66 : decode cX6_ofMacro 66 = .ok (.ireturn, 1) := by decide +kernel
theorem dX6_ofMacro_67 : decode cX6_ofMacro 67 = .ok (.aload_n 3, 1) := by decide +kernel
theorem dX6_ofMacro_68 : decode cX6_ofMacro 68 = .ok (.getfield 104, 3) := by decide +kernel
theorem dX6_ofMacro_71 : decode cX6_ofMacro 71 = .ok (.ireturn, 1) := by decide +kernel
theorem dX6_ofMacro_72 : decode cX6_ofMacro 72 = .ok (.aload_n 0, 1) := by decide +kernel
theorem dX6_ofMacro_73 : decode cX6_ofMacro 73 = .ok (.getfield 12, 3) := by decide +kernel
theorem dX6_ofMacro_76 : decode cX6_ofMacro 76 = .ok (.iload_n 1, 1) := by decide +kernel
theorem dX6_ofMacro_77 : decode cX6_ofMacro 77 = .ok (.invokevirtual 107, 3) := by decide +kernel
theorem dX6_ofMacro_80 : decode cX6_ofMacro 80 = .ok (.ireturn, 1) := by decide +kernel
theorem dX6_ofMacro_81 : decode cX6_ofMacro 81 = .ok (.bipush (-2), 2) := by decide +kernel
theorem dX6_ofMacro_83 : decode cX6_ofMacro 83 = .ok (.ireturn, 1) := by decide +kernel
theorem dX6_key_0 : decode cX6_key 0 = .ok (.aload_n 0, 1) := by decide +kernel
theorem dX6_key_1 : decode cX6_key 1 = .ok (.getfield 12, 3) := by decide +kernel
theorem dX6_key_4 : decode cX6_key 4 = .ok (.iload_n 1, 1) := by decide +kernel
theorem dX6_key_5 : decode cX6_key 5 = .ok (.invokevirtual 88, 3) := by decide +kernel
theorem dX6_key_8 : decode cX6_key 8 = .ok (.astore_n 3, 1) := by decide +kernel
theorem dX6_key_9 : decode cX6_key 9 = .ok (.aload_n 3, 1) := by decide +kernel
theorem dX6_key_10 : decode cX6_key 10 = .ok (.ifnonnull 5, 3) := by decide +kernel
theorem dX6_key_13 : decode cX6_key 13 = .ok (.iconst (-1), 1) := by decide +kernel
theorem dX6_key_14 : decode cX6_key 14 = .ok (.ireturn, 1) := by decide +kernel
theorem dX6_key_15 : decode cX6_key 15 = .ok (.aload_n 3, 1) := by decide +kernel
theorem dX6_key_16 : decode cX6_key 16 = .ok (.iload_n 2, 1) := by decide +kernel
theorem dX6_key_17 : decode cX6_key 17 = .ok (.invokevirtual 110, 3) := by decide +kernel
theorem dX6_key_20 : decode cX6_key 20 = .ok (.istore 4, 2) := by decide +kernel
theorem dX6_key_22 : decode cX6_key 22 = .ok (.iload 4, 2) := by decide +kernel
theorem dX6_key_24 : decode cX6_key 24 = .ok (.bipush (-9), 2) := by decide +kernel
theorem dX6_key_26 : decode cX6_key 26 = .ok (.if_icmp .ne 7, 3) := by decide +kernel
theorem dX6_key_29 : decode cX6_key 29 = .ok (.iconst (-1), 1) := by decide +kernel
theorem dX6_key_30 : decode cX6_key 30 = .ok (.goto 5, 3) := by decide +kernel
theorem dX6_key_33 : decode cX6_key 33 = .ok (.iload 4, 2) := by decide +kernel
theorem dX6_key_35 : decode cX6_key 35 = .ok (.ireturn, 1) := by decide +kernel
theorem dX6_times_0 : decode cX6_times 0 = .ok (.aload_n 0, 1) := by decide +kernel
theorem dX6_times_1 : decode cX6_times 1 = .ok (.getfield 12, 3) := by decide +kernel
theorem dX6_times_4 : decode cX6_times 4 = .ok (.iload_n 1, 1) := by decide +kernel
theorem dX6_times_5 : decode cX6_times 5 = .ok (.invokevirtual 88, 3) := by decide +kernel
theorem dX6_times_8 : decode cX6_times 8 = .ok (.astore_n 3, 1) := by decide +kernel
theorem dX6_times_9 : decode cX6_times 9 = .ok (.aload_n 3, 1) := by decide +kernel
theorem dX6_times_10 : decode cX6_times 10 = .ok (.ifnonnull 5, 3) := by decide +kernel
theorem dX6_times_13 : decode cX6_times 13 = .ok (.iconst (-1), 1) := by decide +kernel
theorem dX6_times_14 : decode cX6_times 14 = .ok (.ireturn, 1) := by decide +kernel
theorem dX6_times_15 : decode cX6_times 15 = .ok (.iload_n 2, 1) := by decide +kernel
theorem dX6_times_16 : decode cX6_times 16 = .ok (.iconst 1, 1) := by decide +kernel
theorem dX6_times_17 : decode cX6_times 17 = .ok (.if_icmp .lt 8, 3) := by decide +kernel
theorem dX6_times_20 : decode cX6_times 20 = .ok (.iload_n 2, 1) := by decide +kernel
theorem dX6_times_21 : decode cX6_times 21 = .ok (.iconst 3, 1) := by decide +kernel
theorem dX6_times_22 : decode cX6_times 22 = .ok (.if_icmp .le 6, 3) := by decide +kernel
theorem dX6_times_25 : decode cX6_times 25 = .ok (.bipush (-2), 2) := by decide +kernel
theorem dX6_times_27 : decode cX6_times 27 = .ok (.ireturn, 1) := by decide +kernel
theorem dX6_times_28 : decode cX6_times 28 = .ok (.aload_n 3, 1) := by decide +kernel
theorem dX6_times_29 : decode cX6_times 29 = .ok (.getfield 97, 3) := by decide +kernel
theorem dX6_times_32 : decode cX6_times 32 = .ok (.istore 4, 2) := by decide +kernel
theorem dX6_times_34 : decode cX6_times 34 = .ok (.aload_n 0, 1) := by decide +kernel
theorem dX6_times_35 : decode cX6_times 35 = .ok (.getfield 12, 3) := by decide +kernel
theorem dX6_times_38 : decode cX6_times 38 = .ok (.iload_n 1, 1) := by decide +kernel
theorem dX6_times_39 : decode cX6_times 39 = .ok (.aload_n 3, 1) := by decide +kernel
theorem dX6_times_40 : decode cX6_times 40 = .ok (.getfield 92, 3) := by decide +kernel
theorem dX6_times_43 : decode cX6_times 43 = .ok (.iload_n 2, 1) := by decide +kernel
theorem dX6_times_44 : decode cX6_times 44 = .ok (.invokevirtual 113, 3) := by decide +kernel
theorem dX6_times_47 : decode cX6_times 47 = .ok (.iload 4, 2) := by decide +kernel
theorem dX6_times_49 : decode cX6_times 49 = .ok (.ireturn, 1) := by decide +kernel
theorem dX6_press_0 : decode cX6_press 0 = .ok (.iload_n 1, 1) := by decide +kernel
theorem dX6_press_1 : decode cX6_press 1 = .ok (.ifCond .lt 9, 3) := by decide +kernel
theorem dX6_press_4 : decode cX6_press 4 = .ok (.iload_n 1, 1) := by decide +kernel
theorem dX6_press_5 : decode cX6_press 5 = .ok (.bipush 8, 2) := by decide +kernel
theorem dX6_press_7 : decode cX6_press 7 = .ok (.if_icmp .lt 6, 3) := by decide +kernel
theorem dX6_press_10 : decode cX6_press 10 = .ok (.bipush (-2), 2) := by decide +kernel
theorem dX6_press_12 : decode cX6_press 12 = .ok (.ireturn, 1) := by decide +kernel
theorem dX6_press_13 : decode cX6_press 13 = .ok (.aload_n 0, 1) := by decide +kernel
theorem dX6_press_14 : decode cX6_press 14 = .ok (.getfield 48, 3) := by decide +kernel
theorem dX6_press_17 : decode cX6_press 17 = .ok (.istore_n 2, 1) := by decide +kernel
theorem dX6_press_18 : decode cX6_press 18 = .ok (.aload_n 0, 1) := by decide +kernel
theorem dX6_press_19 : decode cX6_press 19 = .ok (.iload_n 2, 1) := by decide +kernel
theorem dX6_press_20 : decode cX6_press 20 = .ok (.iload_n 1, 1) := by decide +kernel
theorem dX6_press_21 : decode cX6_press 21 = .ok (.invokestatic 117, 3) := by decide +kernel
theorem dX6_press_24 : decode cX6_press 24 = .ok (.putfield 48, 3) := by decide +kernel
theorem dX6_press_27 : decode cX6_press 27 = .ok (.aload_n 0, 1) := by decide +kernel
theorem dX6_press_28 : decode cX6_press 28 = .ok (.dup, 1) := by decide +kernel
theorem dX6_press_29 : decode cX6_press 29 = .ok (.getfield 79, 3) := by decide +kernel
theorem dX6_press_32 : decode cX6_press 32 = .ok (.iconst 1, 1) := by decide +kernel
theorem dX6_press_33 : decode cX6_press 33 = .ok (.iadd, 1) := by decide +kernel
theorem dX6_press_34 : decode cX6_press 34 = .ok (.putfield 79, 3) := by decide +kernel
theorem dX6_press_37 : decode cX6_press 37 = .ok (.aload_n 0, 1) := by decide +kernel
theorem dX6_press_38 : decode cX6_press 38 = .ok (.getfield 48, 3) := by decide +kernel
theorem dX6_press_41 : decode cX6_press 41 = .ok (.iload_n 2, 1) := by decide +kernel
theorem dX6_press_42 : decode cX6_press 42 = .ok (.if_icmp .ne 7, 3) := by decide +kernel
theorem dX6_press_45 : decode cX6_press 45 = .ok (.iconst 0, 1) := by decide +kernel
theorem dX6_press_46 : decode cX6_press 46 = .ok (.goto 4, 3) := by decide +kernel
theorem dX6_press_49 : decode cX6_press 49 = .ok (.iconst 1, 1) := by decide +kernel
theorem dX6_press_50 : decode cX6_press 50 = .ok (.ireturn, 1) := by decide +kernel
theorem dX6_play_0 : decode cX6_play 0 = .ok (.aload_n 0, 1) := by decide +kernel
theorem dX6_play_1 : decode cX6_play 1 = .ok (.getfield 12, 3) := by decide +kernel
theorem dX6_play_4 : decode cX6_play 4 = .ok (.iload_n 1, 1) := by decide +kernel
theorem dX6_play_5 : decode cX6_play 5 = .ok (.invokevirtual 88, 3) := by decide +kernel
theorem dX6_play_8 : decode cX6_play 8 = .ok (.ifnonnull 5, 3) := by decide +kernel
theorem dX6_play_11 : decode cX6_play 11 = .ok (.iconst (-1), 1) := by decide +kernel
theorem dX6_play_12 : decode cX6_play 12 = .ok (.ireturn, 1) := by decide +kernel
theorem dX6_play_13 : decode cX6_play 13 = .ok (.aload_n 0, 1) := by decide +kernel
theorem dX6_play_14 : decode cX6_play 14 = .ok (.getfield 12, 3) := by decide +kernel
theorem dX6_play_17 : decode cX6_play 17 = .ok (.aload_n 0, 1) := by decide +kernel
theorem dX6_play_18 : decode cX6_play 18 = .ok (.getfield 48, 3) := by decide +kernel
theorem dX6_play_21 : decode cX6_play 21 = .ok (.bipush 8, 2) := by decide +kernel
theorem dX6_play_23 : decode cX6_play 23 = .ok (.iload_n 1, 1) := by decide +kernel
theorem dX6_play_24 : decode cX6_play 24 = .ok (.iadd, 1) := by decide +kernel
theorem dX6_play_25 : decode cX6_play 25 = .ok (.invokevirtual 121, 3) := by decide +kernel
theorem dX6_play_28 : decode cX6_play 28 = .ok (.istore_n 2, 1) := by decide +kernel
theorem dX6_play_29 : decode cX6_play 29 = .ok (.aload_n 0, 1) := by decide +kernel
theorem dX6_play_30 : decode cX6_play 30 = .ok (.iload_n 2, 1) := by decide +kernel
theorem dX6_play_31 : decode cX6_play 31 = .ok (.invokestatic 124, 3) := by decide +kernel
theorem dX6_play_34 : decode cX6_play 34 = .ok (.putfield 48, 3) := by decide +kernel
theorem dX6_play_37 : decode cX6_play 37 = .ok (.aload_n 0, 1) := by decide +kernel
theorem dX6_play_38 : decode cX6_play 38 = .ok (.dup, 1) := by decide +kernel
theorem dX6_play_39 : decode cX6_play 39 = .ok (.getfield 79, 3) := by decide +kernel
theorem dX6_play_42 : decode cX6_play 42 = .ok (.iconst 1, 1) := by decide +kernel
theorem dX6_play_43 : decode cX6_play 43 = .ok (.iadd, 1) := by decide +kernel
theorem dX6_play_44 : decode cX6_play 44 = .ok (.putfield 79, 3) := by decide +kernel
theorem dX6_play_47 : decode cX6_play 47 = .ok (.iload_n 2, 1) := by decide +kernel
theorem dX6_play_48 : decode cX6_play 48 = .ok (.invokestatic 127, 3) := by decide +kernel
theorem dX6_play_51 : decode cX6_play 51 = .ok (.ireturn, 1) := by decide +kernel
theorem dX6_letter_0 : decode cX6_letter 0 = .ok (.iload_n 1, 1) := by decide +kernel
theorem dX6_letter_1 : decode cX6_letter 1 = .ok (.ifCond .lt 14, 3) := by decide +kernel
theorem dX6_letter_4 : decode cX6_letter 4 = .ok (.iload_n 1, 1) := by decide +kernel
theorem dX6_letter_5 : decode cX6_letter 5 = .ok (.aload_n 0, 1) := by decide +kernel
theorem dX6_letter_6 : decode cX6_letter 6 = .ok (.getfield 48, 3) := by decide +kernel
theorem dX6_letter_9 : decode cX6_letter 9 = .ok (.invokestatic 130, 3) := by decide +kernel
theorem dX6_letter_12 : decode cX6_letter 12 = .ok (.if_icmp .lt 7, 3) := by decide +kernel
theorem dX6_letter_15 : decode cX6_letter 15 = .ok (.iconst (-1), 1) := by decide +kernel
theorem dX6_letter_16 : decode cX6_letter 16 = .ok (.goto 11, 3) := by decide +kernel
theorem dX6_letter_19 : decode cX6_letter 19 = .ok (.aload_n 0, 1) := by decide +kernel
theorem dX6_letter_20 : decode cX6_letter 20 = .ok (.getfield 48, 3) := by decide +kernel
theorem dX6_letter_23 : decode cX6_letter 23 = .ok (.iload_n 1, 1) := by decide +kernel
theorem dX6_letter_24 : decode cX6_letter 24 = .ok (.invokestatic 133, 3) := by decide +kernel
theorem dX6_letter_27 : decode cX6_letter 27 = .ok (.ireturn, 1) := by decide +kernel
theorem dX6_clear_0 : decode cX6_clear 0 = .ok (.aload_n 0, 1) := by decide +kernel
theorem dX6_clear_1 : decode cX6_clear 1 = .ok (.getfield 48, 3) := by decide +kernel
theorem dX6_clear_4 : decode cX6_clear 4 = .ok (.invokestatic 130, 3) := by decide +kernel
theorem dX6_clear_7 : decode cX6_clear 7 = .ok (.istore_n 1, 1) := by decide +kernel
theorem dX6_clear_8 : decode cX6_clear 8 = .ok (.aload_n 0, 1) := by decide +kernel
theorem dX6_clear_9 : decode cX6_clear 9 = .ok (.iconst 0, 1) := by decide +kernel
theorem dX6_clear_10 : decode cX6_clear 10 = .ok (.putfield 48, 3) := by decide +kernel
theorem dX6_clear_13 : decode cX6_clear 13 = .ok (.iload_n 1, 1) := by decide +kernel
theorem dX6_clear_14 : decode cX6_clear 14 = .ok (.ireturn, 1) := by decide +kernel
theorem dX6_row_0 : decode cX6_row 0 = .ok (.aload_n 0, 1) := by decide +kernel
theorem dX6_row_1 : decode cX6_row 1 = .ok (.iconst 0, 1) := by decide +kernel
theorem dX6_row_2 : decode cX6_row 2 = .ok (.putfield 52, 3) := by decide +kernel
theorem dX6_row_5 : decode cX6_row 5 = .ok (.aload_n 0, 1) := by decide +kernel
theorem dX6_row_6 : decode cX6_row 6 = .ok (.iload_n 1, 1) := by decide +kernel
theorem dX6_row_7 : decode cX6_row 7 = .ok (.invokevirtual 55, 3) := by decide +kernel
theorem dX6_row_10 : decode cX6_row 10 = .ok (.astore 6, 2) := by decide +kernel
theorem dX6_row_12 : decode cX6_row 12 = .ok (.aload 6, 2) := by decide +kernel
theorem dX6_row_14 : decode cX6_row 14 = .ok (.ifnonnull 5, 3) := by decide +kernel
theorem dX6_row_17 : decode cX6_row 17 = .ok (.iconst (-1), 1) := by decide +kernel
theorem dX6_row_18 : decode cX6_row 18 = .ok (.ireturn, 1) := by decide +kernel
theorem dX6_row_19 : decode cX6_row 19 = .ok (.iload_n 2, 1) := by decide +kernel
theorem dX6_row_20 : decode cX6_row 20 = .ok (.invokestatic 59, 3) := by decide +kernel
theorem dX6_row_23 : decode cX6_row 23 = .ok (.ifCond .eq 23, 3) := by decide +kernel
theorem dX6_row_26 : decode cX6_row 26 = .ok (.iload 4, 2) := by decide +kernel
theorem dX6_row_28 : decode cX6_row 28 = .ok (.ifCond .lt 18, 3) := by decide +kernel
theorem dX6_row_31 : decode cX6_row 31 = .ok (.iload 4, 2) := by decide +kernel
theorem dX6_row_33 : decode cX6_row 33 = .ok (.bipush 20, 2) := by decide +kernel
theorem dX6_row_35 : decode cX6_row 35 = .ok (.if_icmp .gt 11, 3) := by decide +kernel
theorem dX6_row_38 : decode cX6_row 38 = .ok (.iload 5, 2) := by decide +kernel
theorem dX6_row_40 : decode cX6_row 40 = .ok (.invokestatic 136, 3) := by decide +kernel
theorem dX6_row_43 : decode cX6_row 43 = .ok (.ifCond .ne 6, 3) := by decide +kernel
theorem dX6_row_46 : decode cX6_row 46 = .ok (.bipush (-2), 2) := by decide +kernel
theorem dX6_row_48 : decode cX6_row 48 = .ok (.ireturn, 1) := by decide +kernel
theorem dX6_row_49 : decode cX6_row 49 = .ok (.aload 6, 2) := by decide +kernel
theorem dX6_row_51 : decode cX6_row 51 = .ok (.iload_n 2, 1) := by decide +kernel
theorem dX6_row_52 : decode cX6_row 52 = .ok (.iload_n 3, 1) := by decide +kernel
theorem dX6_row_53 : decode cX6_row 53 = .ok (.iload 4, 2) := by decide +kernel
theorem dX6_row_55 : decode cX6_row 55 = .ok (.invokevirtual 63, 3) := by decide +kernel
theorem dX6_row_58 : decode cX6_row 58 = .ok (.istore 7, 2) := by decide +kernel
theorem dX6_row_60 : decode cX6_row 60 = .ok (.iload 7, 2) := by decide +kernel
theorem dX6_row_62 : decode cX6_row 62 = .ok (.ifCond .eq 10, 3) := by decide +kernel
theorem dX6_row_65 : decode cX6_row 65 = .ok (.aload_n 0, 1) := by decide +kernel
theorem dX6_row_66 : decode cX6_row 66 = .ok (.iload 7, 2) := by decide +kernel
theorem dX6_row_68 : decode cX6_row 68 = .ok (.invokevirtual 67, 3) := by decide +kernel
theorem dX6_row_71 : decode cX6_row 71 = .ok (.ireturn, 1) := by decide +kernel
theorem dX6_row_72 : decode cX6_row 72 = .ok (.aload 6, 2) := by decide +kernel
theorem dX6_row_74 : decode cX6_row 74 = .ok (.iload_n 3, 1) := by decide +kernel
theorem dX6_row_75 : decode cX6_row 75 = .ok (.iload 4, 2) := by decide +kernel
theorem dX6_row_77 : decode cX6_row 77 = .ok (.bipush 10, 2) := by decide +kernel
theorem dX6_row_79 : decode cX6_row 79 = .ok (.invokevirtual 139, 3) := by decide +kernel
theorem dX6_row_82 : decode cX6_row 82 = .ok (.ifCond .ne 6, 3) := by decide +kernel
theorem dX6_row_85 : decode cX6_row 85 = .ok (.bipush (-2), 2) := by decide +kernel
theorem dX6_row_87 : decode cX6_row 87 = .ok (.ireturn, 1) := by decide +kernel
theorem dX6_row_88 : decode cX6_row 88 = .ok (.aload 6, 2) := by decide +kernel
theorem dX6_row_90 : decode cX6_row 90 = .ok (.iload_n 3, 1) := by decide +kernel
theorem dX6_row_91 : decode cX6_row 91 = .ok (.iload 4, 2) := by decide +kernel
theorem dX6_row_93 : decode cX6_row 93 = .ok (.aload_n 0, 1) := by decide +kernel
theorem dX6_row_94 : decode cX6_row 94 = .ok (.getfield 12, 3) := by decide +kernel
theorem dX6_row_97 : decode cX6_row 97 = .ok (.invokevirtual 143, 3) := by decide +kernel
theorem dX6_row_100 : decode cX6_row 100 = .ok (.iconst 1, 1) := by decide +kernel
theorem dX6_row_101 : decode cX6_row 101 = .ok (.isub, 1) := by decide +kernel
theorem dX6_row_102 : decode cX6_row 102 = .ok (.invokevirtual 139, 3) := by decide +kernel
theorem dX6_row_105 : decode cX6_row 105 = .ok (.ifCond .ne 5, 3) := by decide +kernel
theorem dX6_row_108 : decode cX6_row 108 = .ok (.iconst (-1), 1) := by decide +kernel
theorem dX6_row_109 : decode cX6_row 109 = .ok (.ireturn, 1) := by decide +kernel
theorem dX6_row_110 : decode cX6_row 110 = .ok (.aload_n 0, 1) := by decide +kernel
theorem dX6_row_111 : decode cX6_row 111 = .ok (.aload 6, 2) := by decide +kernel
theorem dX6_row_113 : decode cX6_row 113 = .ok (.iload_n 3, 1) := by decide +kernel
theorem dX6_row_114 : decode cX6_row 114 = .ok (.iload 4, 2) := by decide +kernel
theorem dX6_row_116 : decode cX6_row 116 = .ok (.iload 5, 2) := by decide +kernel
theorem dX6_row_118 : decode cX6_row 118 = .ok (.invokevirtual 146, 3) := by decide +kernel
theorem dX6_row_121 : decode cX6_row 121 = .ok (.ireturn, 1) := by decide +kernel
theorem dX6_isOfRow_0 : decode cX6_isOfRow 0 = .ok (.iload_n 0, 1) := by decide +kernel
theorem dX6_isOfRow_1 : decode cX6_isOfRow 1 = .ok (.ifCond .lt 8, 3) := by decide +kernel
theorem dX6_isOfRow_4 : decode cX6_isOfRow 4 = .ok (.iload_n 0, 1) := by decide +kernel
theorem dX6_isOfRow_5 : decode cX6_isOfRow 5 = .ok (.iconst 4, 1) := by decide +kernel
theorem dX6_isOfRow_6 : decode cX6_isOfRow 6 = .ok (.if_icmp .le 15, 3) := by decide +kernel
theorem dX6_isOfRow_9 : decode cX6_isOfRow 9 = .ok (.iload_n 0, 1) := by decide +kernel
theorem dX6_isOfRow_10 : decode cX6_isOfRow 10 = .ok (.bipush 10, 2) := by decide +kernel
theorem dX6_isOfRow_12 : decode cX6_isOfRow 12 = .ok (.if_icmp .lt 13, 3) := by decide +kernel
theorem dX6_isOfRow_15 : decode cX6_isOfRow 15 = .ok (.iload_n 0, 1) := by decide +kernel
theorem dX6_isOfRow_16 : decode cX6_isOfRow 16 = .ok (.bipush 15, 2) := by decide +kernel
theorem dX6_isOfRow_18 : decode cX6_isOfRow 18 = .ok (.if_icmp .ge 7, 3) := by decide +kernel
theorem dX6_isOfRow_21 : decode cX6_isOfRow 21 = .ok (.iconst 1, 1) := by decide +kernel
theorem dX6_isOfRow_22 : decode cX6_isOfRow 22 = .ok (.goto 4, 3) := by decide +kernel
theorem dX6_isOfRow_25 : decode cX6_isOfRow 25 = .ok (.iconst 0, 1) := by decide +kernel
theorem dX6_isOfRow_26 : decode cX6_isOfRow 26 = .ok (.ireturn, 1) := by decide +kernel
theorem dX6_ofRow_0 : decode cX6_ofRow 0 = .ok (.aload_n 0, 1) := by decide +kernel
theorem dX6_ofRow_1 : decode cX6_ofRow 1 = .ok (.getfield 48, 3) := by decide +kernel
theorem dX6_ofRow_4 : decode cX6_ofRow 4 = .ok (.istore 5, 2) := by decide +kernel
theorem dX6_ofRow_6 : decode cX6_ofRow 6 = .ok (.iconst 0, 1) := by decide +kernel
theorem dX6_ofRow_7 : decode cX6_ofRow 7 = .ok (.istore 6, 2) := by decide +kernel
theorem dX6_ofRow_9 : decode cX6_ofRow 9 = .ok (.bipush (-9), 2) := by decide +kernel
theorem dX6_ofRow_11 : decode cX6_ofRow 11 = .ok (.istore 7, 2) := by decide +kernel
theorem dX6_ofRow_13 : decode cX6_ofRow 13 = .ok (.iconst 0, 1) := by decide +kernel
theorem dX6_ofRow_14 : decode cX6_ofRow 14 = .ok (.istore 8, 2) := by decide +kernel
theorem dX6_ofRow_16 : decode cX6_ofRow 16 = .ok (.iload 8, 2) := by decide +kernel
theorem dX6_ofRow_18 : decode cX6_ofRow 18 = .ok (.iload_n 3, 1) := by decide +kernel
theorem dX6_ofRow_19 : decode cX6_ofRow 19 = .ok (.if_icmp .ge 77, 3) := by decide +kernel
theorem dX6_ofRow_22 : decode cX6_ofRow 22 = .ok (.aload_n 1, 1) := by decide +kernel
theorem dX6_ofRow_23 : decode cX6_ofRow 23 = .ok (.getfield 150, 3) := by decide +kernel
theorem dX6_ofRow_26 : decode cX6_ofRow 26 = .ok (.iload_n 2, 1) := by decide +kernel
theorem dX6_ofRow_27 : decode cX6_ofRow 27 = .ok (.iload 8, 2) := by decide +kernel
theorem dX6_ofRow_29 : decode cX6_ofRow 29 = .ok (.iadd, 1) := by decide +kernel
theorem dX6_ofRow_30 : decode cX6_ofRow 30 = .ok (.iaload, 1) := by decide +kernel
theorem dX6_ofRow_31 : decode cX6_ofRow 31 = .ok (.istore 9, 2) := by decide +kernel
theorem dX6_ofRow_33 : decode cX6_ofRow 33 = .ok (.aload_n 0, 1) := by decide +kernel
theorem dX6_ofRow_34 : decode cX6_ofRow 34 = .ok (.getfield 12, 3) := by decide +kernel
theorem dX6_ofRow_37 : decode cX6_ofRow 37 = .ok (.iload 5, 2) := by decide +kernel
theorem dX6_ofRow_39 : decode cX6_ofRow 39 = .ok (.iload 9, 2) := by decide +kernel
theorem dX6_ofRow_41 : decode cX6_ofRow 41 = .ok (.invokevirtual 121, 3) := by decide +kernel
theorem dX6_ofRow_44 : decode cX6_ofRow 44 = .ok (.istore 10, 2) := by decide +kernel
theorem dX6_ofRow_46 : decode cX6_ofRow 46 = .ok (.iload 10, 2) := by decide +kernel
theorem dX6_ofRow_48 : decode cX6_ofRow 48 = .ok (.invokestatic 127, 3) := by decide +kernel
theorem dX6_ofRow_51 : decode cX6_ofRow 51 = .ok (.istore 11, 2) := by decide +kernel
theorem dX6_ofRow_53 : decode cX6_ofRow 53 = .ok (.iload 7, 2) := by decide +kernel
theorem dX6_ofRow_55 : decode cX6_ofRow 55 = .ok (.bipush (-9), 2) := by decide +kernel
theorem dX6_ofRow_57 : decode cX6_ofRow 57 = .ok (.if_icmp .ne 19, 3) := by decide +kernel
theorem dX6_ofRow_60 : decode cX6_ofRow 60 = .ok (.iload 9, 2) := by decide +kernel
theorem dX6_ofRow_62 : decode cX6_ofRow 62 = .ok (.bipush 8, 2) := by decide +kernel
theorem dX6_ofRow_64 : decode cX6_ofRow 64 = .ok (.if_icmp .ge 12, 3) := by decide +kernel
theorem dX6_ofRow_67 : decode cX6_ofRow 67 = .ok (.iload 11, 2) := by decide +kernel
theorem dX6_ofRow_69 : decode cX6_ofRow 69 = .ok (.ifCond .le 7, 3) := by decide +kernel
theorem dX6_ofRow_72 : decode cX6_ofRow 72 = .ok (.iload 8, 2) := by decide +kernel
theorem dX6_ofRow_74 : decode cX6_ofRow 74 = .ok (.istore 7, 2) := by decide +kernel
theorem dX6_ofRow_76 : decode cX6_ofRow 76 = .ok (.iload 6, 2) := by decide +kernel
theorem dX6_ofRow_78 : decode cX6_ofRow 78 = .ok (.iload 11, 2) := by decide +kernel
theorem dX6_ofRow_80 : decode cX6_ofRow 80 = .ok (.iadd, 1) := by decide +kernel
theorem dX6_ofRow_81 : decode cX6_ofRow 81 = .ok (.istore 6, 2) := by decide +kernel
theorem dX6_ofRow_83 : decode cX6_ofRow 83 = .ok (.iload 10, 2) := by decide +kernel
theorem dX6_ofRow_85 : decode cX6_ofRow 85 = .ok (.invokestatic 124, 3) := by decide +kernel
theorem dX6_ofRow_88 : decode cX6_ofRow 88 = .ok (.istore 5, 2) := by decide +kernel
theorem dX6_ofRow_90 : decode cX6_ofRow 90 = .ok (.iinc 8 1, 3) := by decide +kernel
theorem dX6_ofRow_93 : decode cX6_ofRow 93 = .ok (.goto (-77), 3) := by decide +kernel
theorem dX6_ofRow_96 : decode cX6_ofRow 96 = .ok (.iload 4, 2) := by decide +kernel
theorem dX6_ofRow_98 : decode cX6_ofRow 98 = .ok (.tableswitch 58 0 4 #[34, 40, 46, 49, 52], 34) := by decide +kernel
theorem dX6_ofRow_132 : decode cX6_ofRow 132 = .ok (.iload 5, 2) := by decide +kernel
theorem dX6_ofRow_134 : decode cX6_ofRow 134 = .ok (.invokestatic 130, 3) := by decide +kernel
theorem dX6_ofRow_137 : decode cX6_ofRow 137 = .ok (.ireturn, 1) := by decide +kernel
theorem dX6_ofRow_138 : decode cX6_ofRow 138 = .ok (.iload 5, 2) := by decide +kernel
theorem dX6_ofRow_140 : decode cX6_ofRow 140 = .ok (.invokestatic 153, 3) := by decide +kernel
theorem dX6_ofRow_143 : decode cX6_ofRow 143 = .ok (.ireturn, 1) := by decide +kernel
theorem dX6_ofRow_144 : decode cX6_ofRow 144 = .ok (.iload 7, 2) := by decide +kernel
theorem dX6_ofRow_146 : decode cX6_ofRow 146 = .ok (.ireturn, 1) := by decide +kernel
theorem dX6_ofRow_147 : decode cX6_ofRow 147 = .ok (.iload 6, 2) := by decide +kernel
theorem dX6_ofRow_149 : decode cX6_ofRow 149 = .ok (.ireturn, 1) := by decide +kernel
theorem dX6_ofRow_150 : decode cX6_ofRow 150 = .ok (.iload 5, 2) := by decide +kernel
theorem dX6_ofRow_152 : decode cX6_ofRow 152 = .ok (.invokestatic 156, 3) := by decide +kernel
theorem dX6_ofRow_155 : decode cX6_ofRow 155 = .ok (.ireturn, 1) := by decide +kernel
theorem dX6_ofRow_156 : decode cX6_ofRow 156 = .ok (.iload 4, 2) := by decide +kernel
theorem dX6_ofRow_158 : decode cX6_ofRow 158 = .ok (.bipush 10, 2) := by decide +kernel
theorem dX6_ofRow_160 : decode cX6_ofRow 160 = .ok (.isub, 1) := by decide +kernel
theorem dX6_ofRow_161 : decode cX6_ofRow 161 = .ok (.iload 5, 2) := by decide +kernel
theorem dX6_ofRow_163 : decode cX6_ofRow 163 = .ok (.invokestatic 130, 3) := by decide +kernel
theorem dX6_ofRow_166 : decode cX6_ofRow 166 = .ok (.if_icmp .ge 16, 3) := by decide +kernel
theorem dX6_ofRow_169 : decode cX6_ofRow 169 = .ok (.iload 5, 2) := by decide +kernel
theorem dX6_ofRow_171 : decode cX6_ofRow 171 = .ok (.iload 4, 2) := by decide +kernel
theorem dX6_ofRow_173 : decode cX6_ofRow 173 = .ok (.bipush 10, 2) := by decide +kernel
theorem dX6_ofRow_175 : decode cX6_ofRow 175 = .ok (.isub, 1) := by decide +kernel
theorem dX6_ofRow_176 : decode cX6_ofRow 176 = .ok (.invokestatic 133, 3) := by decide +kernel
theorem dX6_ofRow_179 : decode cX6_ofRow 179 = .ok (.goto 5, 3) := by decide +kernel
theorem dX6_ofRow_182 : decode cX6_ofRow 182 = .ok (.bipush (-9), 2) := by decide +kernel
theorem dX6_ofRow_184 : decode cX6_ofRow 184 = .ok (.ireturn, 1) := by decide +kernel
theorem dX6_fewest_0 : decode cX6_fewest 0 = .ok (.aload_n 0, 1) := by decide +kernel
theorem dX6_fewest_1 : decode cX6_fewest 1 = .ok (.iconst 0, 1) := by decide +kernel
theorem dX6_fewest_2 : decode cX6_fewest 2 = .ok (.putfield 52, 3) := by decide +kernel
theorem dX6_fewest_5 : decode cX6_fewest 5 = .ok (.aload_n 0, 1) := by decide +kernel
theorem dX6_fewest_6 : decode cX6_fewest 6 = .ok (.iload_n 1, 1) := by decide +kernel
theorem dX6_fewest_7 : decode cX6_fewest 7 = .ok (.invokevirtual 55, 3) := by decide +kernel
theorem dX6_fewest_10 : decode cX6_fewest 10 = .ok (.astore 6, 2) := by decide +kernel
theorem dX6_fewest_12 : decode cX6_fewest 12 = .ok (.aload 6, 2) := by decide +kernel
theorem dX6_fewest_14 : decode cX6_fewest 14 = .ok (.ifnonnull 5, 3) := by decide +kernel
theorem dX6_fewest_17 : decode cX6_fewest 17 = .ok (.iconst (-1), 1) := by decide +kernel
theorem dX6_fewest_18 : decode cX6_fewest 18 = .ok (.ireturn, 1) := by decide +kernel
theorem dX6_fewest_19 : decode cX6_fewest 19 = .ok (.iload_n 2, 1) := by decide +kernel
theorem dX6_fewest_20 : decode cX6_fewest 20 = .ok (.invokestatic 59, 3) := by decide +kernel
theorem dX6_fewest_23 : decode cX6_fewest 23 = .ok (.ifCond .eq 27, 3) := by decide +kernel
theorem dX6_fewest_26 : decode cX6_fewest 26 = .ok (.iload 4, 2) := by decide +kernel
theorem dX6_fewest_28 : decode cX6_fewest 28 = .ok (.ifCond .lt 22, 3) := by decide +kernel
theorem dX6_fewest_31 : decode cX6_fewest 31 = .ok (.iload 4, 2) := by decide +kernel
theorem dX6_fewest_33 : decode cX6_fewest 33 = .ok (.iconst 5, 1) := by decide +kernel
theorem dX6_fewest_34 : decode cX6_fewest 34 = .ok (.if_icmp .gt 16, 3) := by decide +kernel
theorem dX6_fewest_37 : decode cX6_fewest 37 = .ok (.iload 5, 2) := by decide +kernel
theorem dX6_fewest_39 : decode cX6_fewest 39 = .ok (.iconst (-1), 1) := by decide +kernel
theorem dX6_fewest_40 : decode cX6_fewest 40 = .ok (.if_icmp .lt 10, 3) := by decide +kernel
theorem dX6_fewest_43 : decode cX6_fewest 43 = .ok (.iload 5, 2) := by decide +kernel
theorem dX6_fewest_45 : decode cX6_fewest 45 = .ok (.bipush 20, 2) := by decide +kernel
theorem dX6_fewest_47 : decode cX6_fewest 47 = .ok (.if_icmp .le 6, 3) := by decide +kernel
theorem dX6_fewest_50 : decode cX6_fewest 50 = .ok (.bipush (-2), 2) := by decide +kernel
theorem dX6_fewest_52 : decode cX6_fewest 52 = .ok (.ireturn, 1) := by decide +kernel
theorem dX6_fewest_53 : decode cX6_fewest 53 = .ok (.aload 6, 2) := by decide +kernel
theorem dX6_fewest_55 : decode cX6_fewest 55 = .ok (.iload_n 2, 1) := by decide +kernel
theorem dX6_fewest_56 : decode cX6_fewest 56 = .ok (.iload_n 3, 1) := by decide +kernel
theorem dX6_fewest_57 : decode cX6_fewest 57 = .ok (.iload 4, 2) := by decide +kernel
theorem dX6_fewest_59 : decode cX6_fewest 59 = .ok (.invokevirtual 63, 3) := by decide +kernel
theorem dX6_fewest_62 : decode cX6_fewest 62 = .ok (.istore 7, 2) := by decide +kernel
theorem dX6_fewest_64 : decode cX6_fewest 64 = .ok (.iload 7, 2) := by decide +kernel
theorem dX6_fewest_66 : decode cX6_fewest 66 = .ok (.ifCond .eq 10, 3) := by decide +kernel
theorem dX6_fewest_69 : decode cX6_fewest 69 = .ok (.aload_n 0, 1) := by decide +kernel
theorem dX6_fewest_70 : decode cX6_fewest 70 = .ok (.iload 7, 2) := by decide +kernel
theorem dX6_fewest_72 : decode cX6_fewest 72 = .ok (.invokevirtual 67, 3) := by decide +kernel
theorem dX6_fewest_75 : decode cX6_fewest 75 = .ok (.ireturn, 1) := by decide +kernel
theorem dX6_fewest_76 : decode cX6_fewest 76 = .ok (.aload 6, 2) := by decide +kernel
theorem dX6_fewest_78 : decode cX6_fewest 78 = .ok (.iload_n 3, 1) := by decide +kernel
theorem dX6_fewest_79 : decode cX6_fewest 79 = .ok (.iload 4, 2) := by decide +kernel
theorem dX6_fewest_81 : decode cX6_fewest 81 = .ok (.iconst 3, 1) := by decide +kernel
theorem dX6_fewest_82 : decode cX6_fewest 82 = .ok (.invokevirtual 139, 3) := by decide +kernel
theorem dX6_fewest_85 : decode cX6_fewest 85 = .ok (.ifCond .ne 6, 3) := by decide +kernel
theorem dX6_fewest_88 : decode cX6_fewest 88 = .ok (.bipush (-2), 2) := by decide +kernel
theorem dX6_fewest_90 : decode cX6_fewest 90 = .ok (.ireturn, 1) := by decide +kernel
theorem dX6_fewest_91 : decode cX6_fewest 91 = .ok (.aload_n 0, 1) := by decide +kernel
theorem dX6_fewest_92 : decode cX6_fewest 92 = .ok (.getfield 28, 3) := by decide +kernel
theorem dX6_fewest_95 : decode cX6_fewest 95 = .ok (.aload_n 0, 1) := by decide +kernel
theorem dX6_fewest_96 : decode cX6_fewest 96 = .ok (.getfield 12, 3) := by decide +kernel
theorem dX6_fewest_99 : decode cX6_fewest 99 = .ok (.aload_n 0, 1) := by decide +kernel
theorem dX6_fewest_100 : decode cX6_fewest 100 = .ok (.getfield 48, 3) := by decide +kernel
theorem dX6_fewest_103 : decode cX6_fewest 103 = .ok (.iconst 0, 1) := by decide +kernel
theorem dX6_fewest_104 : decode cX6_fewest 104 = .ok (.aload 6, 2) := by decide +kernel
theorem dX6_fewest_106 : decode cX6_fewest 106 = .ok (.iload_n 3, 1) := by decide +kernel
theorem dX6_fewest_107 : decode cX6_fewest 107 = .ok (.iload 4, 2) := by decide +kernel
theorem dX6_fewest_109 : decode cX6_fewest 109 = .ok (.invokestatic 159, 3) := by decide +kernel
theorem dX6_fewest_112 : decode cX6_fewest 112 = .ok (.invokevirtual 162, 3) := by decide +kernel
theorem dX6_fewest_115 : decode cX6_fewest 115 = .ok (.istore 8, 2) := by decide +kernel
theorem dX6_fewest_117 : decode cX6_fewest 117 = .ok (.iload 8, 2) := by decide +kernel
theorem dX6_fewest_119 : decode cX6_fewest 119 = .ok (.bipush (-9), 2) := by decide +kernel
theorem dX6_fewest_121 : decode cX6_fewest 121 = .ok (.if_icmp .ne 6, 3) := by decide +kernel
theorem dX6_fewest_124 : decode cX6_fewest 124 = .ok (.bipush (-9), 2) := by decide +kernel
theorem dX6_fewest_126 : decode cX6_fewest 126 = .ok (.ireturn, 1) := by decide +kernel
theorem dX6_fewest_127 : decode cX6_fewest 127 = .ok (.iload 5, 2) := by decide +kernel
theorem dX6_fewest_129 : decode cX6_fewest 129 = .ok (.iconst (-1), 1) := by decide +kernel
theorem dX6_fewest_130 : decode cX6_fewest 130 = .ok (.if_icmp .ne 15, 3) := by decide +kernel
theorem dX6_fewest_133 : decode cX6_fewest 133 = .ok (.aload_n 0, 1) := by decide +kernel
theorem dX6_fewest_134 : decode cX6_fewest 134 = .ok (.getfield 28, 3) := by decide +kernel
theorem dX6_fewest_137 : decode cX6_fewest 137 = .ok (.iload 8, 2) := by decide +kernel
theorem dX6_fewest_139 : decode cX6_fewest 139 = .ok (.invokevirtual 166, 3) := by decide +kernel
theorem dX6_fewest_142 : decode cX6_fewest 142 = .ok (.goto 14, 3) := by decide +kernel
theorem dX6_fewest_145 : decode cX6_fewest 145 = .ok (.aload_n 0, 1) := by decide +kernel
theorem dX6_fewest_146 : decode cX6_fewest 146 = .ok (.getfield 28, 3) := by decide +kernel
theorem dX6_fewest_149 : decode cX6_fewest 149 = .ok (.iload 8, 2) := by decide +kernel
theorem dX6_fewest_151 : decode cX6_fewest 151 = .ok (.iload 5, 2) := by decide +kernel
theorem dX6_fewest_153 : decode cX6_fewest 153 = .ok (.invokevirtual 169, 3) := by decide +kernel
theorem dX6_fewest_156 : decode cX6_fewest 156 = .ok (.ireturn, 1) := by decide +kernel
theorem dX6_lineTold_0 : decode cX6_lineTold 0 = .ok (.iconst 0, 1) := by decide +kernel
theorem dX6_lineTold_1 : decode cX6_lineTold 1 = .ok (.istore_n 3, 1) := by decide +kernel
theorem dX6_lineTold_2 : decode cX6_lineTold 2 = .ok (.iconst 0, 1) := by decide +kernel
theorem dX6_lineTold_3 : decode cX6_lineTold 3 = .ok (.istore 4, 2) := by decide +kernel
theorem dX6_lineTold_5 : decode cX6_lineTold 5 = .ok (.iload 4, 2) := by decide +kernel
theorem dX6_lineTold_7 : decode cX6_lineTold 7 = .ok (.iload_n 2, 1) := by decide +kernel
theorem dX6_lineTold_8 : decode cX6_lineTold 8 = .ok (.if_icmp .ge 23, 3) := by decide +kernel
theorem dX6_lineTold_11 : decode cX6_lineTold 11 = .ok (.iload_n 3, 1) := by decide +kernel
theorem dX6_lineTold_12 : decode cX6_lineTold 12 = .ok (.iconst 4, 1) := by decide +kernel
theorem dX6_lineTold_13 : decode cX6_lineTold 13 = .ok (.imul, 1) := by decide +kernel
theorem dX6_lineTold_14 : decode cX6_lineTold 14 = .ok (.aload_n 0, 1) := by decide +kernel
theorem dX6_lineTold_15 : decode cX6_lineTold 15 = .ok (.getfield 150, 3) := by decide +kernel
theorem dX6_lineTold_18 : decode cX6_lineTold 18 = .ok (.iload_n 1, 1) := by decide +kernel
theorem dX6_lineTold_19 : decode cX6_lineTold 19 = .ok (.iload 4, 2) := by decide +kernel
theorem dX6_lineTold_21 : decode cX6_lineTold 21 = .ok (.iadd, 1) := by decide +kernel
theorem dX6_lineTold_22 : decode cX6_lineTold 22 = .ok (.iaload, 1) := by decide +kernel
theorem dX6_lineTold_23 : decode cX6_lineTold 23 = .ok (.iadd, 1) := by decide +kernel
theorem dX6_lineTold_24 : decode cX6_lineTold 24 = .ok (.istore_n 3, 1) := by decide +kernel
theorem dX6_lineTold_25 : decode cX6_lineTold 25 = .ok (.iinc 4 1, 3) := by decide +kernel
theorem dX6_lineTold_28 : decode cX6_lineTold 28 = .ok (.goto (-23), 3) := by decide +kernel
theorem dX6_lineTold_31 : decode cX6_lineTold 31 = .ok (.iload_n 2, 1) := by decide +kernel
theorem dX6_lineTold_32 : decode cX6_lineTold 32 = .ok (.iconst 0, 1) := by decide +kernel
theorem dX6_lineTold_33 : decode cX6_lineTold 33 = .ok (.iload_n 3, 1) := by decide +kernel
theorem dX6_lineTold_34 : decode cX6_lineTold 34 = .ok (.invokestatic 172, 3) := by decide +kernel
theorem dX6_lineTold_37 : decode cX6_lineTold 37 = .ok (.ireturn, 1) := by decide +kernel
theorem dX6_again_0 : decode cX6_again 0 = .ok (.aload_n 0, 1) := by decide +kernel
theorem dX6_again_1 : decode cX6_again 1 = .ok (.getfield 12, 3) := by decide +kernel
theorem dX6_again_4 : decode cX6_again 4 = .ok (.iload_n 1, 1) := by decide +kernel
theorem dX6_again_5 : decode cX6_again 5 = .ok (.invokevirtual 88, 3) := by decide +kernel
theorem dX6_again_8 : decode cX6_again 8 = .ok (.ifnonnull 5, 3) := by decide +kernel
theorem dX6_again_11 : decode cX6_again 11 = .ok (.iconst (-1), 1) := by decide +kernel
theorem dX6_again_12 : decode cX6_again 12 = .ok (.ireturn, 1) := by decide +kernel
theorem dX6_again_13 : decode cX6_again 13 = .ok (.iload_n 2, 1) := by decide +kernel
theorem dX6_again_14 : decode cX6_again 14 = .ok (.ifCond .eq 11, 3) := by decide +kernel
theorem dX6_again_17 : decode cX6_again 17 = .ok (.iload_n 2, 1) := by decide +kernel
theorem dX6_again_18 : decode cX6_again 18 = .ok (.iconst 1, 1) := by decide +kernel
theorem dX6_again_19 : decode cX6_again 19 = .ok (.if_icmp .eq 6, 3) := by decide +kernel
theorem dX6_again_22 : decode cX6_again 22 = .ok (.bipush (-2), 2) := by decide +kernel
theorem dX6_again_24 : decode cX6_again 24 = .ok (.ireturn, 1) := by decide +kernel
theorem dX6_again_25 : decode cX6_again 25 = .ok (.iload_n 2, 1) := by decide +kernel
theorem dX6_again_26 : decode cX6_again 26 = .ok (.ifCond .ne 22, 3) := by decide +kernel
theorem dX6_again_29 : decode cX6_again 29 = .ok (.aload_n 0, 1) := by decide +kernel
theorem dX6_again_30 : decode cX6_again 30 = .ok (.getfield 28, 3) := by decide +kernel
theorem dX6_again_33 : decode cX6_again 33 = .ok (.aload_n 0, 1) := by decide +kernel
theorem dX6_again_34 : decode cX6_again 34 = .ok (.getfield 12, 3) := by decide +kernel
theorem dX6_again_37 : decode cX6_again 37 = .ok (.aload_n 0, 1) := by decide +kernel
theorem dX6_again_38 : decode cX6_again 38 = .ok (.getfield 48, 3) := by decide +kernel
theorem dX6_again_41 : decode cX6_again 41 = .ok (.iload_n 1, 1) := by decide +kernel
theorem dX6_again_42 : decode cX6_again 42 = .ok (.invokevirtual 175, 3) := by decide +kernel
theorem dX6_again_45 : decode cX6_again 45 = .ok (.goto 19, 3) := by decide +kernel
theorem dX6_again_48 : decode cX6_again 48 = .ok (.aload_n 0, 1) := by decide +kernel
theorem dX6_again_49 : decode cX6_again 49 = .ok (.getfield 28, 3) := by decide +kernel
theorem dX6_again_52 : decode cX6_again 52 = .ok (.aload_n 0, 1) := by decide +kernel
theorem dX6_again_53 : decode cX6_again 53 = .ok (.getfield 12, 3) := by decide +kernel
theorem dX6_again_56 : decode cX6_again 56 = .ok (.aload_n 0, 1) := by decide +kernel
theorem dX6_again_57 : decode cX6_again 57 = .ok (.getfield 48, 3) := by decide +kernel
theorem dX6_again_60 : decode cX6_again 60 = .ok (.iload_n 1, 1) := by decide +kernel
theorem dX6_again_61 : decode cX6_again 61 = .ok (.invokevirtual 179, 3) := by decide +kernel
theorem dX6_again_64 : decode cX6_again 64 = .ok (.ireturn, 1) := by decide +kernel
theorem dX6_like_0 : decode cX6_like 0 = .ok (.aload_n 0, 1) := by decide +kernel
theorem dX6_like_1 : decode cX6_like 1 = .ok (.getfield 12, 3) := by decide +kernel
theorem dX6_like_4 : decode cX6_like 4 = .ok (.iload_n 1, 1) := by decide +kernel
theorem dX6_like_5 : decode cX6_like 5 = .ok (.invokevirtual 182, 3) := by decide +kernel
theorem dX6_like_8 : decode cX6_like 8 = .ok (.ifCond .eq 14, 3) := by decide +kernel
theorem dX6_like_11 : decode cX6_like 11 = .ok (.aload_n 0, 1) := by decide +kernel
theorem dX6_like_12 : decode cX6_like 12 = .ok (.getfield 12, 3) := by decide +kernel
theorem dX6_like_15 : decode cX6_like 15 = .ok (.iload_n 2, 1) := by decide +kernel
theorem dX6_like_16 : decode cX6_like 16 = .ok (.invokevirtual 182, 3) := by decide +kernel
theorem dX6_like_19 : decode cX6_like 19 = .ok (.ifCond .ne 5, 3) := by decide +kernel
theorem dX6_like_22 : decode cX6_like 22 = .ok (.iconst (-1), 1) := by decide +kernel
theorem dX6_like_23 : decode cX6_like 23 = .ok (.ireturn, 1) := by decide +kernel
theorem dX6_like_24 : decode cX6_like 24 = .ok (.iconst 0, 1) := by decide +kernel
theorem dX6_like_25 : decode cX6_like 25 = .ok (.istore_n 3, 1) := by decide +kernel
theorem dX6_like_26 : decode cX6_like 26 = .ok (.iconst 0, 1) := by decide +kernel
theorem dX6_like_27 : decode cX6_like 27 = .ok (.istore 4, 2) := by decide +kernel
theorem dX6_like_29 : decode cX6_like 29 = .ok (.iload 4, 2) := by decide +kernel
theorem dX6_like_31 : decode cX6_like 31 = .ok (.sipush 7737, 3) := by decide +kernel
theorem dX6_like_34 : decode cX6_like 34 = .ok (.if_icmp .ge 35, 3) := by decide +kernel
theorem dX6_like_37 : decode cX6_like 37 = .ok (.aload_n 0, 1) := by decide +kernel
theorem dX6_like_38 : decode cX6_like 38 = .ok (.getfield 12, 3) := by decide +kernel
theorem dX6_like_41 : decode cX6_like 41 = .ok (.iload 4, 2) := by decide +kernel
theorem dX6_like_43 : decode cX6_like 43 = .ok (.iload_n 1, 1) := by decide +kernel
theorem dX6_like_44 : decode cX6_like 44 = .ok (.invokevirtual 185, 3) := by decide +kernel
theorem dX6_like_47 : decode cX6_like 47 = .ok (.aload_n 0, 1) := by decide +kernel
theorem dX6_like_48 : decode cX6_like 48 = .ok (.getfield 12, 3) := by decide +kernel
theorem dX6_like_51 : decode cX6_like 51 = .ok (.iload 4, 2) := by decide +kernel
theorem dX6_like_53 : decode cX6_like 53 = .ok (.iload_n 2, 1) := by decide +kernel
theorem dX6_like_54 : decode cX6_like 54 = .ok (.invokevirtual 185, 3) := by decide +kernel
theorem dX6_like_57 : decode cX6_like 57 = .ok (.if_icmp .ne 6, 3) := by decide +kernel
theorem dX6_like_60 : decode cX6_like 60 = .ok (.iinc 3 1, 3) := by decide +kernel
theorem dX6_like_63 : decode cX6_like 63 = .ok (.iinc 4 1, 3) := by decide +kernel
theorem dX6_like_66 : decode cX6_like 66 = .ok (.goto (-37), 3) := by decide +kernel
theorem dX6_like_69 : decode cX6_like 69 = .ok (.iload_n 3, 1) := by decide +kernel
theorem dX6_like_70 : decode cX6_like 70 = .ok (.ireturn, 1) := by decide +kernel
theorem dX6_still_0 : decode cX6_still 0 = .ok (.aload_n 0, 1) := by decide +kernel
theorem dX6_still_1 : decode cX6_still 1 = .ok (.getfield 12, 3) := by decide +kernel
theorem dX6_still_4 : decode cX6_still 4 = .ok (.iload_n 1, 1) := by decide +kernel
theorem dX6_still_5 : decode cX6_still 5 = .ok (.invokevirtual 182, 3) := by decide +kernel
theorem dX6_still_8 : decode cX6_still 8 = .ok (.ifCond .ne 5, 3) := by decide +kernel
theorem dX6_still_11 : decode cX6_still 11 = .ok (.iconst (-1), 1) := by decide +kernel
theorem dX6_still_12 : decode cX6_still 12 = .ok (.ireturn, 1) := by decide +kernel
theorem dX6_still_13 : decode cX6_still 13 = .ok (.iconst 0, 1) := by decide +kernel
theorem dX6_still_14 : decode cX6_still 14 = .ok (.istore_n 2, 1) := by decide +kernel
theorem dX6_still_15 : decode cX6_still 15 = .ok (.iconst 0, 1) := by decide +kernel
theorem dX6_still_16 : decode cX6_still 16 = .ok (.istore_n 3, 1) := by decide +kernel
theorem dX6_still_17 : decode cX6_still 17 = .ok (.iload_n 3, 1) := by decide +kernel
theorem dX6_still_18 : decode cX6_still 18 = .ok (.sipush 7737, 3) := by decide +kernel
theorem dX6_still_21 : decode cX6_still 21 = .ok (.if_icmp .ge 25, 3) := by decide +kernel
theorem dX6_still_24 : decode cX6_still 24 = .ok (.aload_n 0, 1) := by decide +kernel
theorem dX6_still_25 : decode cX6_still 25 = .ok (.getfield 12, 3) := by decide +kernel
theorem dX6_still_28 : decode cX6_still 28 = .ok (.iload_n 3, 1) := by decide +kernel
theorem dX6_still_29 : decode cX6_still 29 = .ok (.iload_n 1, 1) := by decide +kernel
theorem dX6_still_30 : decode cX6_still 30 = .ok (.invokevirtual 185, 3) := by decide +kernel
theorem dX6_still_33 : decode cX6_still 33 = .ok (.iload_n 3, 1) := by decide +kernel
theorem dX6_still_34 : decode cX6_still 34 = .ok (.if_icmp .ne 6, 3) := by decide +kernel
theorem dX6_still_37 : decode cX6_still 37 = .ok (.iinc 2 1, 3) := by decide +kernel
theorem dX6_still_40 : decode cX6_still 40 = .ok (.iinc 3 1, 3) := by decide +kernel
theorem dX6_still_43 : decode cX6_still 43 = .ok (.goto (-26), 3) := by decide +kernel
theorem dX6_still_46 : decode cX6_still 46 = .ok (.iload_n 2, 1) := by decide +kernel
theorem dX6_still_47 : decode cX6_still 47 = .ok (.ireturn, 1) := by decide +kernel
theorem dX6_come_0 : decode cX6_come 0 = .ok (.aload_n 0, 1) := by decide +kernel
theorem dX6_come_1 : decode cX6_come 1 = .ok (.getfield 28, 3) := by decide +kernel
theorem dX6_come_4 : decode cX6_come 4 = .ok (.aload_n 0, 1) := by decide +kernel
theorem dX6_come_5 : decode cX6_come 5 = .ok (.getfield 12, 3) := by decide +kernel
theorem dX6_come_8 : decode cX6_come 8 = .ok (.aload_n 0, 1) := by decide +kernel
theorem dX6_come_9 : decode cX6_come 9 = .ok (.getfield 48, 3) := by decide +kernel
theorem dX6_come_12 : decode cX6_come 12 = .ok (.bipush 8, 2) := by decide +kernel
theorem dX6_come_14 : decode cX6_come 14 = .ok (.invokevirtual 188, 3) := by decide +kernel
theorem dX6_come_17 : decode cX6_come 17 = .ok (.ireturn, 1) := by decide +kernel
theorem dX6_reading_0 : decode cX6_reading 0 = .ok (.aload_n 0, 1) := by decide +kernel
theorem dX6_reading_1 : decode cX6_reading 1 = .ok (.getfield 12, 3) := by decide +kernel
theorem dX6_reading_4 : decode cX6_reading 4 = .ok (.iload_n 1, 1) := by decide +kernel
theorem dX6_reading_5 : decode cX6_reading 5 = .ok (.invokevirtual 88, 3) := by decide +kernel
theorem dX6_reading_8 : decode cX6_reading 8 = .ok (.ifnonnull 5, 3) := by decide +kernel
theorem dX6_reading_11 : decode cX6_reading 11 = .ok (.iconst (-1), 1) := by decide +kernel
theorem dX6_reading_12 : decode cX6_reading 12 = .ok (.ireturn, 1) := by decide +kernel
theorem dX6_reading_13 : decode cX6_reading 13 = .ok (.iload_n 2, 1) := by decide +kernel
theorem dX6_reading_14 : decode cX6_reading 14 = .ok (.ifCond .lt 8, 3) := by decide +kernel
theorem dX6_reading_17 : decode cX6_reading 17 = .ok (.iload_n 2, 1) := by decide +kernel
theorem dX6_reading_18 : decode cX6_reading 18 = .ok (.iconst 5, 1) := by decide +kernel
theorem dX6_reading_19 : decode cX6_reading 19 = .ok (.if_icmp .le 6, 3) := by decide +kernel
theorem dX6_reading_22 : decode cX6_reading 22 = .ok (.bipush (-2), 2) := by decide +kernel
theorem dX6_reading_24 : decode cX6_reading 24 = .ok (.ireturn, 1) := by decide +kernel
theorem dX6_reading_25 : decode cX6_reading 25 = .ok (.aload_n 0, 1) := by decide +kernel
theorem dX6_reading_26 : decode cX6_reading 26 = .ok (.getfield 82, 3) := by decide +kernel
theorem dX6_reading_29 : decode cX6_reading 29 = .ok (.bipush 8, 2) := by decide +kernel
theorem dX6_reading_31 : decode cX6_reading 31 = .ok (.if_icmp .lt 6, 3) := by decide +kernel
theorem dX6_reading_34 : decode cX6_reading 34 = .ok (.bipush (-4), 2) := by decide +kernel
theorem dX6_reading_36 : decode cX6_reading 36 = .ok (.ireturn, 1) := by decide +kernel
theorem dX6_reading_37 : decode cX6_reading 37 = .ok (.aload_n 0, 1) := by decide +kernel
theorem dX6_reading_38 : decode cX6_reading 38 = .ok (.getfield 39, 3) := by decide +kernel
theorem dX6_reading_41 : decode cX6_reading 41 = .ok (.aload_n 0, 1) := by decide +kernel
theorem dX6_reading_42 : decode cX6_reading 42 = .ok (.getfield 82, 3) := by decide +kernel
theorem dX6_reading_45 : decode cX6_reading 45 = .ok (.iload_n 1, 1) := by decide +kernel
theorem dX6_reading_46 : decode cX6_reading 46 = .ok (.iastore, 1) := by decide +kernel
theorem dX6_reading_47 : decode cX6_reading 47 = .ok (.aload_n 0, 1) := by decide +kernel
theorem dX6_reading_48 : decode cX6_reading 48 = .ok (.getfield 43, 3) := by decide +kernel
theorem dX6_reading_51 : decode cX6_reading 51 = .ok (.aload_n 0, 1) := by decide +kernel
theorem dX6_reading_52 : decode cX6_reading 52 = .ok (.getfield 82, 3) := by decide +kernel
theorem dX6_reading_55 : decode cX6_reading 55 = .ok (.iload_n 2, 1) := by decide +kernel
theorem dX6_reading_56 : decode cX6_reading 56 = .ok (.iastore, 1) := by decide +kernel
theorem dX6_reading_57 : decode cX6_reading 57 = .ok (.aload_n 0, 1) := by decide +kernel
theorem dX6_reading_58 : decode cX6_reading 58 = .ok (.dup, 1) := by decide +kernel
theorem dX6_reading_59 : decode cX6_reading 59 = .ok (.getfield 82, 3) := by decide +kernel
theorem dX6_reading_62 : decode cX6_reading 62 = .ok (.dup_x1, 1) := by decide +kernel
theorem dX6_reading_63 : decode cX6_reading 63 = .ok (.iconst 1, 1) := by decide +kernel
theorem dX6_reading_64 : decode cX6_reading 64 = .ok (.iadd, 1) := by decide +kernel
theorem dX6_reading_65 : decode cX6_reading 65 = .ok (.putfield 82, 3) := by decide +kernel
theorem dX6_reading_68 : decode cX6_reading 68 = .ok (.ireturn, 1) := by decide +kernel
theorem dX6_back_0 : decode cX6_back 0 = .ok (.iload_n 1, 1) := by decide +kernel
theorem dX6_back_1 : decode cX6_back 1 = .ok (.ifCond .lt 11, 3) := by decide +kernel
theorem dX6_back_4 : decode cX6_back 4 = .ok (.iload_n 1, 1) := by decide +kernel
theorem dX6_back_5 : decode cX6_back 5 = .ok (.aload_n 0, 1) := by decide +kernel
theorem dX6_back_6 : decode cX6_back 6 = .ok (.getfield 82, 3) := by decide +kernel
theorem dX6_back_9 : decode cX6_back 9 = .ok (.if_icmp .le 6, 3) := by decide +kernel
theorem dX6_back_12 : decode cX6_back 12 = .ok (.bipush (-2), 2) := by decide +kernel
theorem dX6_back_14 : decode cX6_back 14 = .ok (.ireturn, 1) := by decide +kernel
theorem dX6_back_15 : decode cX6_back 15 = .ok (.aload_n 0, 1) := by decide +kernel
theorem dX6_back_16 : decode cX6_back 16 = .ok (.dup, 1) := by decide +kernel
theorem dX6_back_17 : decode cX6_back 17 = .ok (.getfield 82, 3) := by decide +kernel
theorem dX6_back_20 : decode cX6_back 20 = .ok (.iload_n 1, 1) := by decide +kernel
theorem dX6_back_21 : decode cX6_back 21 = .ok (.isub, 1) := by decide +kernel
theorem dX6_back_22 : decode cX6_back 22 = .ok (.putfield 82, 3) := by decide +kernel
theorem dX6_back_25 : decode cX6_back 25 = .ok (.aload_n 0, 1) := by decide +kernel
theorem dX6_back_26 : decode cX6_back 26 = .ok (.getfield 82, 3) := by decide +kernel
theorem dX6_back_29 : decode cX6_back 29 = .ok (.ireturn, 1) := by decide +kernel
theorem dX6_timings_0 : decode cX6_timings 0 = .ok (.aload_n 0, 1) := by decide +kernel
theorem dX6_timings_1 : decode cX6_timings 1 = .ok (.getfield 12, 3) := by decide +kernel
theorem dX6_timings_4 : decode cX6_timings 4 = .ok (.iload_n 1, 1) := by decide +kernel
theorem dX6_timings_5 : decode cX6_timings 5 = .ok (.invokevirtual 88, 3) := by decide +kernel
theorem dX6_timings_8 : decode cX6_timings 8 = .ok (.astore_n 2, 1) := by decide +kernel
theorem dX6_timings_9 : decode cX6_timings 9 = .ok (.aload_n 2, 1) := by decide +kernel
theorem dX6_timings_10 : decode cX6_timings 10 = .ok (.ifnonnull 5, 3) := by decide +kernel
theorem dX6_timings_13 : decode cX6_timings 13 = .ok (.iconst (-1), 1) := by decide +kernel
theorem dX6_timings_14 : decode cX6_timings 14 = .ok (.ireturn, 1) := by decide +kernel
theorem dX6_timings_15 : decode cX6_timings 15 = .ok (.aload_n 2, 1) := by decide +kernel
theorem dX6_timings_16 : decode cX6_timings 16 = .ok (.getfield 97, 3) := by decide +kernel
theorem dX6_timings_19 : decode cX6_timings 19 = .ok (.istore_n 3, 1) := by decide +kernel
theorem dX6_timings_20 : decode cX6_timings 20 = .ok (.iconst 0, 1) := by decide +kernel
theorem dX6_timings_21 : decode cX6_timings 21 = .ok (.istore 4, 2) := by decide +kernel
theorem dX6_timings_23 : decode cX6_timings 23 = .ok (.iconst 1, 1) := by decide +kernel
theorem dX6_timings_24 : decode cX6_timings 24 = .ok (.istore 5, 2) := by decide +kernel
theorem dX6_timings_26 : decode cX6_timings 26 = .ok (.iload 5, 2) := by decide +kernel
theorem dX6_timings_28 : decode cX6_timings 28 = .ok (.iconst 3, 1) := by decide +kernel
theorem dX6_timings_29 : decode cX6_timings 29 = .ok (.if_icmp .gt 43, 3) := by decide +kernel
theorem dX6_timings_32 : decode cX6_timings 32 = .ok (.aload_n 0, 1) := by decide +kernel
theorem dX6_timings_33 : decode cX6_timings 33 = .ok (.getfield 12, 3) := by decide +kernel
theorem dX6_timings_36 : decode cX6_timings 36 = .ok (.iload_n 1, 1) := by decide +kernel
theorem dX6_timings_37 : decode cX6_timings 37 = .ok (.aload_n 2, 1) := by decide +kernel
theorem dX6_timings_38 : decode cX6_timings 38 = .ok (.getfield 92, 3) := by decide +kernel
theorem dX6_timings_41 : decode cX6_timings 41 = .ok (.iload 5, 2) := by decide +kernel
theorem dX6_timings_43 : decode cX6_timings 43 = .ok (.invokevirtual 113, 3) := by decide +kernel
theorem dX6_timings_46 : decode cX6_timings 46 = .ok (.iload 4, 2) := by decide +kernel
theorem dX6_timings_48 : decode cX6_timings 48 = .ok (.aload_n 0, 1) := by decide +kernel
theorem dX6_timings_49 : decode cX6_timings 49 = .ok (.invokevirtual 191, 3) := by decide +kernel
theorem dX6_timings_52 : decode cX6_timings 52 = .ok (.ifCond .eq 10, 3) := by decide +kernel
theorem dX6_timings_55 : decode cX6_timings 55 = .ok (.iconst 1, 1) := by decide +kernel
theorem dX6_timings_56 : decode cX6_timings 56 = .ok (.iload 5, 2) := by decide +kernel
theorem dX6_timings_58 : decode cX6_timings 58 = .ok (.ishl, 1) := by decide +kernel
theorem dX6_timings_59 : decode cX6_timings 59 = .ok (.goto 4, 3) := by decide +kernel
theorem dX6_timings_62 : decode cX6_timings 62 = .ok (.iconst 0, 1) := by decide +kernel
theorem dX6_timings_63 : decode cX6_timings 63 = .ok (.ior, 1) := by decide +kernel
theorem dX6_timings_64 : decode cX6_timings 64 = .ok (.istore 4, 2) := by decide +kernel
theorem dX6_timings_66 : decode cX6_timings 66 = .ok (.iinc 5 1, 3) := by decide +kernel
theorem dX6_timings_69 : decode cX6_timings 69 = .ok (.goto (-43), 3) := by decide +kernel
theorem dX6_timings_72 : decode cX6_timings 72 = .ok (.aload_n 0, 1) := by decide +kernel
theorem dX6_timings_73 : decode cX6_timings 73 = .ok (.getfield 12, 3) := by decide +kernel
theorem dX6_timings_76 : decode cX6_timings 76 = .ok (.iload_n 1, 1) := by decide +kernel
theorem dX6_timings_77 : decode cX6_timings 77 = .ok (.aload_n 2, 1) := by decide +kernel
theorem dX6_timings_78 : decode cX6_timings 78 = .ok (.getfield 92, 3) := by decide +kernel
theorem dX6_timings_81 : decode cX6_timings 81 = .ok (.iload_n 3, 1) := by decide +kernel
theorem dX6_timings_82 : decode cX6_timings 82 = .ok (.invokevirtual 113, 3) := by decide +kernel
theorem dX6_timings_85 : decode cX6_timings 85 = .ok (.iload 4, 2) := by decide +kernel
theorem dX6_timings_87 : decode cX6_timings 87 = .ok (.ireturn, 1) := by decide +kernel
theorem dX6_kinds_0 : decode cX6_kinds 0 = .ok (.aload_n 0, 1) := by decide +kernel
theorem dX6_kinds_1 : decode cX6_kinds 1 = .ok (.getfield 12, 3) := by decide +kernel
theorem dX6_kinds_4 : decode cX6_kinds 4 = .ok (.iload_n 1, 1) := by decide +kernel
theorem dX6_kinds_5 : decode cX6_kinds 5 = .ok (.invokevirtual 88, 3) := by decide +kernel
theorem dX6_kinds_8 : decode cX6_kinds 8 = .ok (.astore_n 2, 1) := by decide +kernel
theorem dX6_kinds_9 : decode cX6_kinds 9 = .ok (.aload_n 2, 1) := by decide +kernel
theorem dX6_kinds_10 : decode cX6_kinds 10 = .ok (.ifnonnull 5, 3) := by decide +kernel
theorem dX6_kinds_13 : decode cX6_kinds 13 = .ok (.iconst (-1), 1) := by decide +kernel
theorem dX6_kinds_14 : decode cX6_kinds 14 = .ok (.ireturn, 1) := by decide +kernel
theorem dX6_kinds_15 : decode cX6_kinds 15 = .ok (.aload_n 2, 1) := by decide +kernel
theorem dX6_kinds_16 : decode cX6_kinds 16 = .ok (.getfield 92, 3) := by decide +kernel
theorem dX6_kinds_19 : decode cX6_kinds 19 = .ok (.istore_n 3, 1) := by decide +kernel
theorem dX6_kinds_20 : decode cX6_kinds 20 = .ok (.iconst 0, 1) := by decide +kernel
theorem dX6_kinds_21 : decode cX6_kinds 21 = .ok (.istore 4, 2) := by decide +kernel
theorem dX6_kinds_23 : decode cX6_kinds 23 = .ok (.iconst 0, 1) := by decide +kernel
theorem dX6_kinds_24 : decode cX6_kinds 24 = .ok (.istore 5, 2) := by decide +kernel
theorem dX6_kinds_26 : decode cX6_kinds 26 = .ok (.iload 5, 2) := by decide +kernel
theorem dX6_kinds_28 : decode cX6_kinds 28 = .ok (.iconst 2, 1) := by decide +kernel
theorem dX6_kinds_29 : decode cX6_kinds 29 = .ok (.if_icmp .gt 43, 3) := by decide +kernel
theorem dX6_kinds_32 : decode cX6_kinds 32 = .ok (.aload_n 0, 1) := by decide +kernel
theorem dX6_kinds_33 : decode cX6_kinds 33 = .ok (.getfield 12, 3) := by decide +kernel
theorem dX6_kinds_36 : decode cX6_kinds 36 = .ok (.iload_n 1, 1) := by decide +kernel
theorem dX6_kinds_37 : decode cX6_kinds 37 = .ok (.iload 5, 2) := by decide +kernel
theorem dX6_kinds_39 : decode cX6_kinds 39 = .ok (.aload_n 2, 1) := by decide +kernel
theorem dX6_kinds_40 : decode cX6_kinds 40 = .ok (.getfield 97, 3) := by decide +kernel
theorem dX6_kinds_43 : decode cX6_kinds 43 = .ok (.invokevirtual 113, 3) := by decide +kernel
theorem dX6_kinds_46 : decode cX6_kinds 46 = .ok (.iload 4, 2) := by decide +kernel
theorem dX6_kinds_48 : decode cX6_kinds 48 = .ok (.aload_n 0, 1) := by decide +kernel
theorem dX6_kinds_49 : decode cX6_kinds 49 = .ok (.invokevirtual 191, 3) := by decide +kernel
theorem dX6_kinds_52 : decode cX6_kinds 52 = .ok (.ifCond .eq 10, 3) := by decide +kernel
theorem dX6_kinds_55 : decode cX6_kinds 55 = .ok (.iconst 1, 1) := by decide +kernel
theorem dX6_kinds_56 : decode cX6_kinds 56 = .ok (.iload 5, 2) := by decide +kernel
theorem dX6_kinds_58 : decode cX6_kinds 58 = .ok (.ishl, 1) := by decide +kernel
theorem dX6_kinds_59 : decode cX6_kinds 59 = .ok (.goto 4, 3) := by decide +kernel
theorem dX6_kinds_62 : decode cX6_kinds 62 = .ok (.iconst 0, 1) := by decide +kernel
theorem dX6_kinds_63 : decode cX6_kinds 63 = .ok (.ior, 1) := by decide +kernel
theorem dX6_kinds_64 : decode cX6_kinds 64 = .ok (.istore 4, 2) := by decide +kernel
theorem dX6_kinds_66 : decode cX6_kinds 66 = .ok (.iinc 5 1, 3) := by decide +kernel
theorem dX6_kinds_69 : decode cX6_kinds 69 = .ok (.goto (-43), 3) := by decide +kernel
theorem dX6_kinds_72 : decode cX6_kinds 72 = .ok (.aload_n 0, 1) := by decide +kernel
theorem dX6_kinds_73 : decode cX6_kinds 73 = .ok (.getfield 12, 3) := by decide +kernel
theorem dX6_kinds_76 : decode cX6_kinds 76 = .ok (.iload_n 1, 1) := by decide +kernel
theorem dX6_kinds_77 : decode cX6_kinds 77 = .ok (.iload_n 3, 1) := by decide +kernel
theorem dX6_kinds_78 : decode cX6_kinds 78 = .ok (.aload_n 2, 1) := by decide +kernel
theorem dX6_kinds_79 : decode cX6_kinds 79 = .ok (.getfield 97, 3) := by decide +kernel
theorem dX6_kinds_82 : decode cX6_kinds 82 = .ok (.invokevirtual 113, 3) := by decide +kernel
theorem dX6_kinds_85 : decode cX6_kinds 85 = .ok (.iload 4, 2) := by decide +kernel
theorem dX6_kinds_87 : decode cX6_kinds 87 = .ok (.ireturn, 1) := by decide +kernel
theorem dX6_readingsAreSo_0 : decode cX6_readingsAreSo 0 = .ok (.iconst 0, 1) := by decide +kernel
theorem dX6_readingsAreSo_1 : decode cX6_readingsAreSo 1 = .ok (.istore_n 1, 1) := by decide +kernel
theorem dX6_readingsAreSo_2 : decode cX6_readingsAreSo 2 = .ok (.iload_n 1, 1) := by decide +kernel
theorem dX6_readingsAreSo_3 : decode cX6_readingsAreSo 3 = .ok (.aload_n 0, 1) := by decide +kernel
theorem dX6_readingsAreSo_4 : decode cX6_readingsAreSo 4 = .ok (.getfield 82, 3) := by decide +kernel
theorem dX6_readingsAreSo_7 : decode cX6_readingsAreSo 7 = .ok (.if_icmp .ge 48, 3) := by decide +kernel
theorem dX6_readingsAreSo_10 : decode cX6_readingsAreSo 10 = .ok (.iload_n 1, 1) := by decide +kernel
theorem dX6_readingsAreSo_11 : decode cX6_readingsAreSo 11 = .ok (.bipush 8, 2) := by decide +kernel
theorem dX6_readingsAreSo_13 : decode cX6_readingsAreSo 13 = .ok (.if_icmp .ge 42, 3) := by decide +kernel
theorem dX6_readingsAreSo_16 : decode cX6_readingsAreSo 16 = .ok (.aload_n 0, 1) := by decide +kernel
theorem dX6_readingsAreSo_17 : decode cX6_readingsAreSo 17 = .ok (.getfield 12, 3) := by decide +kernel
theorem dX6_readingsAreSo_20 : decode cX6_readingsAreSo 20 = .ok (.iconst 0, 1) := by decide +kernel
theorem dX6_readingsAreSo_21 : decode cX6_readingsAreSo 21 = .ok (.bipush 8, 2) := by decide +kernel
theorem dX6_readingsAreSo_23 : decode cX6_readingsAreSo 23 = .ok (.aload_n 0, 1) := by decide +kernel
theorem dX6_readingsAreSo_24 : decode cX6_readingsAreSo 24 = .ok (.getfield 39, 3) := by decide +kernel
theorem dX6_readingsAreSo_27 : decode cX6_readingsAreSo 27 = .ok (.iload_n 1, 1) := by decide +kernel
theorem dX6_readingsAreSo_28 : decode cX6_readingsAreSo 28 = .ok (.iaload, 1) := by decide +kernel
theorem dX6_readingsAreSo_29 : decode cX6_readingsAreSo 29 = .ok (.iadd, 1) := by decide +kernel
theorem dX6_readingsAreSo_30 : decode cX6_readingsAreSo 30 = .ok (.invokevirtual 185, 3) := by decide +kernel
theorem dX6_readingsAreSo_33 : decode cX6_readingsAreSo 33 = .ok (.istore_n 2, 1) := by decide +kernel
theorem dX6_readingsAreSo_34 : decode cX6_readingsAreSo 34 = .ok (.iload_n 2, 1) := by decide +kernel
theorem dX6_readingsAreSo_35 : decode cX6_readingsAreSo 35 = .ok (.invokestatic 130, 3) := by decide +kernel
theorem dX6_readingsAreSo_38 : decode cX6_readingsAreSo 38 = .ok (.aload_n 0, 1) := by decide +kernel
theorem dX6_readingsAreSo_39 : decode cX6_readingsAreSo 39 = .ok (.getfield 43, 3) := by decide +kernel
theorem dX6_readingsAreSo_42 : decode cX6_readingsAreSo 42 = .ok (.iload_n 1, 1) := by decide +kernel
theorem dX6_readingsAreSo_43 : decode cX6_readingsAreSo 43 = .ok (.iaload, 1) := by decide +kernel
theorem dX6_readingsAreSo_44 : decode cX6_readingsAreSo 44 = .ok (.if_icmp .eq 5, 3) := by decide +kernel
theorem dX6_readingsAreSo_47 : decode cX6_readingsAreSo 47 = .ok (.iconst 0, 1) := by decide +kernel
theorem dX6_readingsAreSo_48 : decode cX6_readingsAreSo 48 = .ok (.ireturn, 1) := by decide +kernel
theorem dX6_readingsAreSo_49 : decode cX6_readingsAreSo 49 = .ok (.iinc 1 1, 3) := by decide +kernel
theorem dX6_readingsAreSo_52 : decode cX6_readingsAreSo 52 = .ok (.goto (-50), 3) := by decide +kernel
theorem dX6_readingsAreSo_55 : decode cX6_readingsAreSo 55 = .ok (.iconst 1, 1) := by decide +kernel
theorem dX6_readingsAreSo_56 : decode cX6_readingsAreSo 56 = .ok (.ireturn, 1) := by decide +kernel
theorem dX6_odds_0 : decode cX6_odds 0 = .ok (.iload_n 1, 1) := by decide +kernel
theorem dX6_odds_1 : decode cX6_odds 1 = .ok (.ifCond .lt 17, 3) := by decide +kernel
theorem dX6_odds_4 : decode cX6_odds 4 = .ok (.iload_n 1, 1) := by decide +kernel
theorem dX6_odds_5 : decode cX6_odds 5 = .ok (.iconst 4, 1) := by decide +kernel
theorem dX6_odds_6 : decode cX6_odds 6 = .ok (.if_icmp .gt 12, 3) := by decide +kernel
theorem dX6_odds_9 : decode cX6_odds 9 = .ok (.iload_n 2, 1) := by decide +kernel
theorem dX6_odds_10 : decode cX6_odds 10 = .ok (.ifCond .eq 12, 3) := by decide +kernel
theorem dX6_odds_13 : decode cX6_odds 13 = .ok (.iload_n 2, 1) := by decide +kernel
theorem dX6_odds_14 : decode cX6_odds 14 = .ok (.iconst 1, 1) := by decide +kernel
theorem dX6_odds_15 : decode cX6_odds 15 = .ok (.if_icmp .eq 7, 3) := by decide +kernel
theorem dX6_odds_18 : decode cX6_odds 18 = .ok (.ldc2_w 195, 3) := by decide +kernel
theorem dX6_odds_21 : decode cX6_odds 21 = .ok (.lreturn, 1) := by decide +kernel
theorem dX6_odds_22 : decode cX6_odds 22 = .ok (.aload_n 0, 1) := by decide +kernel
theorem dX6_odds_23 : decode cX6_odds 23 = .ok (.getfield 48, 3) := by decide +kernel
theorem dX6_odds_26 : decode cX6_odds 26 = .ok (.iload_n 1, 1) := by decide +kernel
theorem dX6_odds_27 : decode cX6_odds 27 = .ok (.invokestatic 197, 3) := by decide +kernel
theorem dX6_odds_30 : decode cX6_odds 30 = .ok (.istore_n 3, 1) := by decide +kernel
theorem dX6_odds_31 : decode cX6_odds 31 = .ok (.iconst 1, 1) := by decide +kernel
theorem dX6_odds_32 : decode cX6_odds 32 = .ok (.iconst 3, 1) := by decide +kernel
theorem dX6_odds_33 : decode cX6_odds 33 = .ok (.iload_n 1, 1) := by decide +kernel
theorem dX6_odds_34 : decode cX6_odds 34 = .ok (.imul, 1) := by decide +kernel
theorem dX6_odds_35 : decode cX6_odds 35 = .ok (.ishl, 1) := by decide +kernel
theorem dX6_odds_36 : decode cX6_odds 36 = .ok (.istore 4, 2) := by decide +kernel
theorem dX6_odds_38 : decode cX6_odds 38 = .ok (.iload 4, 2) := by decide +kernel
theorem dX6_odds_40 : decode cX6_odds 40 = .ok (.iconst 1, 1) := by decide +kernel
theorem dX6_odds_41 : decode cX6_odds 41 = .ok (.if_icmp .le 22, 3) := by decide +kernel
theorem dX6_odds_44 : decode cX6_odds 44 = .ok (.iload_n 3, 1) := by decide +kernel
theorem dX6_odds_45 : decode cX6_odds 45 = .ok (.iconst 2, 1) := by decide +kernel
theorem dX6_odds_46 : decode cX6_odds 46 = .ok (.irem, 1) := by decide +kernel
theorem dX6_odds_47 : decode cX6_odds 47 = .ok (.ifCond .ne 16, 3) := by decide +kernel
theorem dX6_odds_50 : decode cX6_odds 50 = .ok (.iload_n 3, 1) := by decide +kernel
theorem dX6_odds_51 : decode cX6_odds 51 = .ok (.iconst 2, 1) := by decide +kernel
theorem dX6_odds_52 : decode cX6_odds 52 = .ok (.idiv, 1) := by decide +kernel
theorem dX6_odds_53 : decode cX6_odds 53 = .ok (.istore_n 3, 1) := by decide +kernel
theorem dX6_odds_54 : decode cX6_odds 54 = .ok (.iload 4, 2) := by decide +kernel
theorem dX6_odds_56 : decode cX6_odds 56 = .ok (.iconst 2, 1) := by decide +kernel
theorem dX6_odds_57 : decode cX6_odds 57 = .ok (.idiv, 1) := by decide +kernel
theorem dX6_odds_58 : decode cX6_odds 58 = .ok (.istore 4, 2) := by decide +kernel
theorem dX6_odds_60 : decode cX6_odds 60 = .ok (.goto (-22), 3) := by decide +kernel
theorem dX6_odds_63 : decode cX6_odds 63 = .ok (.iload_n 2, 1) := by decide +kernel
theorem dX6_odds_64 : decode cX6_odds 64 = .ok (.ifCond .ne 8, 3) := by decide +kernel
theorem dX6_odds_67 : decode cX6_odds 67 = .ok (.iload_n 3, 1) := by decide +kernel
theorem dX6_odds_68 : decode cX6_odds 68 = .ok (.i2l, 1) := by decide +kernel
theorem dX6_odds_69 : decode cX6_odds 69 = .ok (.goto 6, 3) := by decide +kernel
theorem dX6_odds_72 : decode cX6_odds 72 = .ok (.iload 4, 2) := by decide +kernel
theorem dX6_odds_74 : decode cX6_odds 74 = .ok (.i2l, 1) := by decide +kernel
theorem dX6_odds_75 : decode cX6_odds 75 = .ok (.lreturn, 1) := by decide +kernel
theorem dX6_rowsToEmpty_0 : decode cX6_rowsToEmpty 0 = .ok (.iload_n 1, 1) := by decide +kernel
theorem dX6_rowsToEmpty_1 : decode cX6_rowsToEmpty 1 = .ok (.ifCond .gt 16, 3) := by decide +kernel
theorem dX6_rowsToEmpty_4 : decode cX6_rowsToEmpty 4 = .ok (.iload_n 0, 1) := by decide +kernel
theorem dX6_rowsToEmpty_5 : decode cX6_rowsToEmpty 5 = .ok (.invokestatic 130, 3) := by decide +kernel
theorem dX6_rowsToEmpty_8 : decode cX6_rowsToEmpty 8 = .ok (.ifCond .ne 7, 3) := by decide +kernel
theorem dX6_rowsToEmpty_11 : decode cX6_rowsToEmpty 11 = .ok (.iconst 1, 1) := by decide +kernel
theorem dX6_rowsToEmpty_12 : decode cX6_rowsToEmpty 12 = .ok (.goto 4, 3) := by decide +kernel
theorem dX6_rowsToEmpty_15 : decode cX6_rowsToEmpty 15 = .ok (.iconst 0, 1) := by decide +kernel
theorem dX6_rowsToEmpty_16 : decode cX6_rowsToEmpty 16 = .ok (.ireturn, 1) := by decide +kernel
theorem dX6_rowsToEmpty_17 : decode cX6_rowsToEmpty 17 = .ok (.iconst 0, 1) := by decide +kernel
theorem dX6_rowsToEmpty_18 : decode cX6_rowsToEmpty 18 = .ok (.istore_n 2, 1) := by decide +kernel
theorem dX6_rowsToEmpty_19 : decode cX6_rowsToEmpty 19 = .ok (.iconst 0, 1) := by decide +kernel
theorem dX6_rowsToEmpty_20 : decode cX6_rowsToEmpty 20 = .ok (.istore_n 3, 1) := by decide +kernel
theorem dX6_rowsToEmpty_21 : decode cX6_rowsToEmpty 21 = .ok (.iload_n 3, 1) := by decide +kernel
theorem dX6_rowsToEmpty_22 : decode cX6_rowsToEmpty 22 = .ok (.bipush 8, 2) := by decide +kernel
theorem dX6_rowsToEmpty_24 : decode cX6_rowsToEmpty 24 = .ok (.if_icmp .ge 23, 3) := by decide +kernel
theorem dX6_rowsToEmpty_27 : decode cX6_rowsToEmpty 27 = .ok (.iload_n 2, 1) := by decide +kernel
theorem dX6_rowsToEmpty_28 : decode cX6_rowsToEmpty 28 = .ok (.iload_n 0, 1) := by decide +kernel
theorem dX6_rowsToEmpty_29 : decode cX6_rowsToEmpty 29 = .ok (.iload_n 3, 1) := by decide +kernel
theorem dX6_rowsToEmpty_30 : decode cX6_rowsToEmpty 30 = .ok (.invokestatic 117, 3) := by decide +kernel
theorem dX6_rowsToEmpty_33 : decode cX6_rowsToEmpty 33 = .ok (.iload_n 1, 1) := by decide +kernel
theorem dX6_rowsToEmpty_34 : decode cX6_rowsToEmpty 34 = .ok (.iconst 1, 1) := by decide +kernel
theorem dX6_rowsToEmpty_35 : decode cX6_rowsToEmpty 35 = .ok (.isub, 1) := by decide +kernel
theorem dX6_rowsToEmpty_36 : decode cX6_rowsToEmpty 36 = .ok (.invokestatic 197, 3) := by decide +kernel
theorem dX6_rowsToEmpty_39 : decode cX6_rowsToEmpty 39 = .ok (.iadd, 1) := by decide +kernel
theorem dX6_rowsToEmpty_40 : decode cX6_rowsToEmpty 40 = .ok (.istore_n 2, 1) := by decide +kernel
theorem dX6_rowsToEmpty_41 : decode cX6_rowsToEmpty 41 = .ok (.iinc 3 1, 3) := by decide +kernel
theorem dX6_rowsToEmpty_44 : decode cX6_rowsToEmpty 44 = .ok (.goto (-23), 3) := by decide +kernel
theorem dX6_rowsToEmpty_47 : decode cX6_rowsToEmpty 47 = .ok (.iload_n 2, 1) := by decide +kernel
theorem dX6_rowsToEmpty_48 : decode cX6_rowsToEmpty 48 = .ok (.ireturn, 1) := by decide +kernel
theorem dX6_sheet_0 : decode cX6_sheet 0 = .ok (.aload_n 0, 1) := by decide +kernel
theorem dX6_sheet_1 : decode cX6_sheet 1 = .ok (.iconst 0, 1) := by decide +kernel
theorem dX6_sheet_2 : decode cX6_sheet 2 = .ok (.putfield 52, 3) := by decide +kernel
theorem dX6_sheet_5 : decode cX6_sheet 5 = .ok (.aload_n 0, 1) := by decide +kernel
theorem dX6_sheet_6 : decode cX6_sheet 6 = .ok (.iload_n 1, 1) := by decide +kernel
theorem dX6_sheet_7 : decode cX6_sheet 7 = .ok (.invokevirtual 55, 3) := by decide +kernel
theorem dX6_sheet_10 : decode cX6_sheet 10 = .ok (.astore 4, 2) := by decide +kernel
theorem dX6_sheet_12 : decode cX6_sheet 12 = .ok (.aload 4, 2) := by decide +kernel
theorem dX6_sheet_14 : decode cX6_sheet 14 = .ok (.ifnonnull 5, 3) := by decide +kernel
theorem dX6_sheet_17 : decode cX6_sheet 17 = .ok (.iconst (-1), 1) := by decide +kernel
theorem dX6_sheet_18 : decode cX6_sheet 18 = .ok (.ireturn, 1) := by decide +kernel
theorem dX6_sheet_19 : decode cX6_sheet 19 = .ok (.iload_n 2, 1) := by decide +kernel
theorem dX6_sheet_20 : decode cX6_sheet 20 = .ok (.invokestatic 59, 3) := by decide +kernel
theorem dX6_sheet_23 : decode cX6_sheet 23 = .ok (.ifCond .eq 9, 3) := by decide +kernel
theorem dX6_sheet_26 : decode cX6_sheet 26 = .ok (.iload_n 3, 1) := by decide +kernel
theorem dX6_sheet_27 : decode cX6_sheet 27 = .ok (.bipush 60, 2) := by decide +kernel
theorem dX6_sheet_29 : decode cX6_sheet 29 = .ok (.if_icmp .le 6, 3) := by decide +kernel
theorem dX6_sheet_32 : decode cX6_sheet 32 = .ok (.bipush (-2), 2) := by decide +kernel
theorem dX6_sheet_34 : decode cX6_sheet 34 = .ok (.ireturn, 1) := by decide +kernel
theorem dX6_sheet_35 : decode cX6_sheet 35 = .ok (.iload_n 3, 1) := by decide +kernel
theorem dX6_sheet_36 : decode cX6_sheet 36 = .ok (.ifCond .ge 9, 3) := by decide +kernel
theorem dX6_sheet_39 : decode cX6_sheet 39 = .ok (.aload_n 0, 1) := by decide +kernel
theorem dX6_sheet_40 : decode cX6_sheet 40 = .ok (.iconst 4, 1) := by decide +kernel
theorem dX6_sheet_41 : decode cX6_sheet 41 = .ok (.invokevirtual 67, 3) := by decide +kernel
theorem dX6_sheet_44 : decode cX6_sheet 44 = .ok (.ireturn, 1) := by decide +kernel
theorem dX6_sheet_45 : decode cX6_sheet 45 = .ok (.aload 4, 2) := by decide +kernel
theorem dX6_sheet_47 : decode cX6_sheet 47 = .ok (.iload_n 2, 1) := by decide +kernel
theorem dX6_sheet_48 : decode cX6_sheet 48 = .ok (.iload_n 3, 1) := by decide +kernel
theorem dX6_sheet_49 : decode cX6_sheet 49 = .ok (.invokevirtual 200, 3) := by decide +kernel
theorem dX6_sheet_52 : decode cX6_sheet 52 = .ok (.iconst 1, 1) := by decide +kernel
theorem dX6_sheet_53 : decode cX6_sheet 53 = .ok (.ireturn, 1) := by decide +kernel
theorem dX6_lose_0 : decode cX6_lose 0 = .ok (.aload_n 0, 1) := by decide +kernel
theorem dX6_lose_1 : decode cX6_lose 1 = .ok (.iload_n 1, 1) := by decide +kernel
theorem dX6_lose_2 : decode cX6_lose 2 = .ok (.invokevirtual 55, 3) := by decide +kernel
theorem dX6_lose_5 : decode cX6_lose 5 = .ok (.astore_n 2, 1) := by decide +kernel
theorem dX6_lose_6 : decode cX6_lose 6 = .ok (.aload_n 2, 1) := by decide +kernel
theorem dX6_lose_7 : decode cX6_lose 7 = .ok (.ifnonnull 5, 3) := by decide +kernel
theorem dX6_lose_10 : decode cX6_lose 10 = .ok (.iconst (-1), 1) := by decide +kernel
theorem dX6_lose_11 : decode cX6_lose 11 = .ok (.ireturn, 1) := by decide +kernel
theorem dX6_lose_12 : decode cX6_lose 12 = .ok (.aload_n 2, 1) := by decide +kernel
theorem dX6_lose_13 : decode cX6_lose 13 = .ok (.getfield 204, 3) := by decide +kernel
theorem dX6_lose_16 : decode cX6_lose 16 = .ok (.iconst (-1), 1) := by decide +kernel
theorem dX6_lose_17 : decode cX6_lose 17 = .ok (.if_icmp .ne 7, 3) := by decide +kernel
theorem dX6_lose_20 : decode cX6_lose 20 = .ok (.iconst 0, 1) := by decide +kernel
theorem dX6_lose_21 : decode cX6_lose 21 = .ok (.goto 4, 3) := by decide +kernel
theorem dX6_lose_24 : decode cX6_lose 24 = .ok (.iconst 1, 1) := by decide +kernel
theorem dX6_lose_25 : decode cX6_lose 25 = .ok (.istore_n 3, 1) := by decide +kernel
theorem dX6_lose_26 : decode cX6_lose 26 = .ok (.aload_n 2, 1) := by decide +kernel
theorem dX6_lose_27 : decode cX6_lose 27 = .ok (.iconst (-1), 1) := by decide +kernel
theorem dX6_lose_28 : decode cX6_lose 28 = .ok (.iconst 0, 1) := by decide +kernel
theorem dX6_lose_29 : decode cX6_lose 29 = .ok (.invokevirtual 200, 3) := by decide +kernel
theorem dX6_lose_32 : decode cX6_lose 32 = .ok (.iload_n 3, 1) := by decide +kernel
theorem dX6_lose_33 : decode cX6_lose 33 = .ok (.ireturn, 1) := by decide +kernel
theorem dX6_put_0 : decode cX6_put 0 = .ok (.aload_n 0, 1) := by decide +kernel
theorem dX6_put_1 : decode cX6_put 1 = .ok (.iconst 0, 1) := by decide +kernel
theorem dX6_put_2 : decode cX6_put 2 = .ok (.putfield 52, 3) := by decide +kernel
theorem dX6_put_5 : decode cX6_put 5 = .ok (.aload_n 0, 1) := by decide +kernel
theorem dX6_put_6 : decode cX6_put 6 = .ok (.iload_n 1, 1) := by decide +kernel
theorem dX6_put_7 : decode cX6_put 7 = .ok (.invokevirtual 55, 3) := by decide +kernel
theorem dX6_put_10 : decode cX6_put 10 = .ok (.astore 4, 2) := by decide +kernel
theorem dX6_put_12 : decode cX6_put 12 = .ok (.aload 4, 2) := by decide +kernel
theorem dX6_put_14 : decode cX6_put 14 = .ok (.ifnonnull 5, 3) := by decide +kernel
theorem dX6_put_17 : decode cX6_put 17 = .ok (.iconst (-1), 1) := by decide +kernel
theorem dX6_put_18 : decode cX6_put 18 = .ok (.ireturn, 1) := by decide +kernel
theorem dX6_put_19 : decode cX6_put 19 = .ok (.aload 4, 2) := by decide +kernel
theorem dX6_put_21 : decode cX6_put 21 = .ok (.aload 4, 2) := by decide +kernel
theorem dX6_put_23 : decode cX6_put 23 = .ok (.getfield 204, 3) := by decide +kernel
theorem dX6_put_26 : decode cX6_put 26 = .ok (.iload_n 2, 1) := by decide +kernel
theorem dX6_put_27 : decode cX6_put 27 = .ok (.iconst 1, 1) := by decide +kernel
theorem dX6_put_28 : decode cX6_put 28 = .ok (.invokevirtual 63, 3) := by decide +kernel
theorem dX6_put_31 : decode cX6_put 31 = .ok (.istore 5, 2) := by decide +kernel
theorem dX6_put_33 : decode cX6_put 33 = .ok (.iload 5, 2) := by decide +kernel
theorem dX6_put_35 : decode cX6_put 35 = .ok (.ifCond .eq 10, 3) := by decide +kernel
theorem dX6_put_38 : decode cX6_put 38 = .ok (.aload_n 0, 1) := by decide +kernel
theorem dX6_put_39 : decode cX6_put 39 = .ok (.iload 5, 2) := by decide +kernel
theorem dX6_put_41 : decode cX6_put 41 = .ok (.invokevirtual 67, 3) := by decide +kernel
theorem dX6_put_44 : decode cX6_put 44 = .ok (.ireturn, 1) := by decide +kernel
theorem dX6_put_45 : decode cX6_put 45 = .ok (.aload 4, 2) := by decide +kernel
theorem dX6_put_47 : decode cX6_put 47 = .ok (.getfield 150, 3) := by decide +kernel
theorem dX6_put_50 : decode cX6_put 50 = .ok (.iload_n 2, 1) := by decide +kernel
theorem dX6_put_51 : decode cX6_put 51 = .ok (.aload 4, 2) := by decide +kernel
theorem dX6_put_53 : decode cX6_put 53 = .ok (.iload_n 3, 1) := by decide +kernel
theorem dX6_put_54 : decode cX6_put 54 = .ok (.invokevirtual 207, 3) := by decide +kernel
theorem dX6_put_57 : decode cX6_put 57 = .ok (.iastore, 1) := by decide +kernel
theorem dX6_put_58 : decode cX6_put 58 = .ok (.iconst 1, 1) := by decide +kernel
theorem dX6_put_59 : decode cX6_put 59 = .ok (.ireturn, 1) := by decide +kernel
theorem dX6_cell_0 : decode cX6_cell 0 = .ok (.aload_n 0, 1) := by decide +kernel
theorem dX6_cell_1 : decode cX6_cell 1 = .ok (.iconst 0, 1) := by decide +kernel
theorem dX6_cell_2 : decode cX6_cell 2 = .ok (.putfield 52, 3) := by decide +kernel
theorem dX6_cell_5 : decode cX6_cell 5 = .ok (.aload_n 0, 1) := by decide +kernel
theorem dX6_cell_6 : decode cX6_cell 6 = .ok (.iload_n 1, 1) := by decide +kernel
theorem dX6_cell_7 : decode cX6_cell 7 = .ok (.invokevirtual 55, 3) := by decide +kernel
theorem dX6_cell_10 : decode cX6_cell 10 = .ok (.astore 4, 2) := by decide +kernel
theorem dX6_cell_12 : decode cX6_cell 12 = .ok (.aload 4, 2) := by decide +kernel
theorem dX6_cell_14 : decode cX6_cell 14 = .ok (.ifnull 10, 3) := by decide +kernel
theorem dX6_cell_17 : decode cX6_cell 17 = .ok (.iload_n 3, 1) := by decide +kernel
theorem dX6_cell_18 : decode cX6_cell 18 = .ok (.invokestatic 59, 3) := by decide +kernel
theorem dX6_cell_21 : decode cX6_cell 21 = .ok (.ifCond .ne 7, 3) := by decide +kernel
theorem dX6_cell_24 : decode cX6_cell 24 = .ok (.ldc2_w 195, 3) := by decide +kernel
theorem dX6_cell_27 : decode cX6_cell 27 = .ok (.lreturn, 1) := by decide +kernel
theorem dX6_cell_28 : decode cX6_cell 28 = .ok (.aload_n 0, 1) := by decide +kernel
theorem dX6_cell_29 : decode cX6_cell 29 = .ok (.aload 4, 2) := by decide +kernel
theorem dX6_cell_31 : decode cX6_cell 31 = .ok (.iload_n 3, 1) := by decide +kernel
theorem dX6_cell_32 : decode cX6_cell 32 = .ok (.iload_n 2, 1) := by decide +kernel
theorem dX6_cell_33 : decode cX6_cell 33 = .ok (.iconst 1, 1) := by decide +kernel
theorem dX6_cell_34 : decode cX6_cell 34 = .ok (.invokevirtual 63, 3) := by decide +kernel
theorem dX6_cell_37 : decode cX6_cell 37 = .ok (.putfield 52, 3) := by decide +kernel
theorem dX6_cell_40 : decode cX6_cell 40 = .ok (.aload_n 0, 1) := by decide +kernel
theorem dX6_cell_41 : decode cX6_cell 41 = .ok (.getfield 52, 3) := by decide +kernel
theorem dX6_cell_44 : decode cX6_cell 44 = .ok (.ifCond .ne 14, 3) := by decide +kernel
theorem dX6_cell_47 : decode cX6_cell 47 = .ok (.aload 4, 2) := by decide +kernel
theorem dX6_cell_49 : decode cX6_cell 49 = .ok (.getfield 150, 3) := by decide +kernel
theorem dX6_cell_52 : decode cX6_cell 52 = .ok (.iload_n 2, 1) := by decide +kernel
theorem dX6_cell_53 : decode cX6_cell 53 = .ok (.iaload, 1) := by decide +kernel
theorem dX6_cell_54 : decode cX6_cell 54 = .ok (.i2l, 1) := by decide +kernel
theorem dX6_cell_55 : decode cX6_cell 55 = .ok (.goto 6, 3) := by decide +kernel
theorem dX6_cell_58 : decode cX6_cell 58 = .ok (.ldc2_w 195, 3) := by decide +kernel
theorem dX6_cell_61 : decode cX6_cell 61 = .ok (.lreturn, 1) := by decide +kernel
theorem dX6_copy_0 : decode cX6_copy 0 = .ok (.aload_n 0, 1) := by decide +kernel
theorem dX6_copy_1 : decode cX6_copy 1 = .ok (.iconst 0, 1) := by decide +kernel
theorem dX6_copy_2 : decode cX6_copy 2 = .ok (.putfield 52, 3) := by decide +kernel
theorem dX6_copy_5 : decode cX6_copy 5 = .ok (.aload_n 0, 1) := by decide +kernel
theorem dX6_copy_6 : decode cX6_copy 6 = .ok (.iload_n 1, 1) := by decide +kernel
theorem dX6_copy_7 : decode cX6_copy 7 = .ok (.invokevirtual 55, 3) := by decide +kernel
theorem dX6_copy_10 : decode cX6_copy 10 = .ok (.astore 6, 2) := by decide +kernel
theorem dX6_copy_12 : decode cX6_copy 12 = .ok (.aload_n 0, 1) := by decide +kernel
theorem dX6_copy_13 : decode cX6_copy 13 = .ok (.iload_n 3, 1) := by decide +kernel
theorem dX6_copy_14 : decode cX6_copy 14 = .ok (.invokevirtual 55, 3) := by decide +kernel
theorem dX6_copy_17 : decode cX6_copy 17 = .ok (.astore 7, 2) := by decide +kernel
theorem dX6_copy_19 : decode cX6_copy 19 = .ok (.aload 6, 2) := by decide +kernel
theorem dX6_copy_21 : decode cX6_copy 21 = .ok (.ifnull 8, 3) := by decide +kernel
theorem dX6_copy_24 : decode cX6_copy 24 = .ok (.aload 7, 2) := by decide +kernel
theorem dX6_copy_26 : decode cX6_copy 26 = .ok (.ifnonnull 5, 3) := by decide +kernel
theorem dX6_copy_29 : decode cX6_copy 29 = .ok (.iconst (-1), 1) := by decide +kernel
theorem dX6_copy_30 : decode cX6_copy 30 = .ok (.ireturn, 1) := by decide +kernel
theorem dX6_copy_31 : decode cX6_copy 31 = .ok (.aload 6, 2) := by decide +kernel
theorem dX6_copy_33 : decode cX6_copy 33 = .ok (.getfield 204, 3) := by decide +kernel
theorem dX6_copy_36 : decode cX6_copy 36 = .ok (.iconst (-1), 1) := by decide +kernel
theorem dX6_copy_37 : decode cX6_copy 37 = .ok (.if_icmp .eq 12, 3) := by decide +kernel
theorem dX6_copy_40 : decode cX6_copy 40 = .ok (.aload 7, 2) := by decide +kernel
theorem dX6_copy_42 : decode cX6_copy 42 = .ok (.getfield 204, 3) := by decide +kernel
theorem dX6_copy_45 : decode cX6_copy 45 = .ok (.iconst (-1), 1) := by decide +kernel
theorem dX6_copy_46 : decode cX6_copy 46 = .ok (.if_icmp .ne 9, 3) := by decide +kernel
theorem dX6_copy_49 : decode cX6_copy 49 = .ok (.aload_n 0, 1) := by decide +kernel
theorem dX6_copy_50 : decode cX6_copy 50 = .ok (.iconst 1, 1) := by decide +kernel
theorem dX6_copy_51 : decode cX6_copy 51 = .ok (.invokevirtual 67, 3) := by decide +kernel
theorem dX6_copy_54 : decode cX6_copy 54 = .ok (.ireturn, 1) := by decide +kernel
theorem dX6_copy_55 : decode cX6_copy 55 = .ok (.aload 6, 2) := by decide +kernel
theorem dX6_copy_57 : decode cX6_copy 57 = .ok (.getfield 204, 3) := by decide +kernel
theorem dX6_copy_60 : decode cX6_copy 60 = .ok (.aload 7, 2) := by decide +kernel
theorem dX6_copy_62 : decode cX6_copy 62 = .ok (.getfield 204, 3) := by decide +kernel
theorem dX6_copy_65 : decode cX6_copy 65 = .ok (.if_icmp .eq 9, 3) := by decide +kernel
theorem dX6_copy_68 : decode cX6_copy 68 = .ok (.aload_n 0, 1) := by decide +kernel
theorem dX6_copy_69 : decode cX6_copy 69 = .ok (.iconst 2, 1) := by decide +kernel
theorem dX6_copy_70 : decode cX6_copy 70 = .ok (.invokevirtual 67, 3) := by decide +kernel
theorem dX6_copy_73 : decode cX6_copy 73 = .ok (.ireturn, 1) := by decide +kernel
theorem dX6_copy_74 : decode cX6_copy 74 = .ok (.aload 6, 2) := by decide +kernel
theorem dX6_copy_76 : decode cX6_copy 76 = .ok (.iload_n 2, 1) := by decide +kernel
theorem dX6_copy_77 : decode cX6_copy 77 = .ok (.iload 5, 2) := by decide +kernel
theorem dX6_copy_79 : decode cX6_copy 79 = .ok (.invokevirtual 210, 3) := by decide +kernel
theorem dX6_copy_82 : decode cX6_copy 82 = .ok (.ifCond .eq 15, 3) := by decide +kernel
theorem dX6_copy_85 : decode cX6_copy 85 = .ok (.aload 7, 2) := by decide +kernel
theorem dX6_copy_87 : decode cX6_copy 87 = .ok (.iload 4, 2) := by decide +kernel
theorem dX6_copy_89 : decode cX6_copy 89 = .ok (.iload 5, 2) := by decide +kernel
theorem dX6_copy_91 : decode cX6_copy 91 = .ok (.invokevirtual 210, 3) := by decide +kernel
theorem dX6_copy_94 : decode cX6_copy 94 = .ok (.ifCond .ne 9, 3) := by decide +kernel
theorem dX6_copy_97 : decode cX6_copy 97 = .ok (.aload_n 0, 1) := by decide +kernel
theorem dX6_copy_98 : decode cX6_copy 98 = .ok (.iconst 3, 1) := by decide +kernel
theorem dX6_copy_99 : decode cX6_copy 99 = .ok (.invokevirtual 67, 3) := by decide +kernel
theorem dX6_copy_102 : decode cX6_copy 102 = .ok (.ireturn, 1) := by decide +kernel
theorem dX6_copy_103 : decode cX6_copy 103 = .ok (.aload 6, 2) := by decide +kernel
theorem dX6_copy_105 : decode cX6_copy 105 = .ok (.getfield 150, 3) := by decide +kernel
theorem dX6_copy_108 : decode cX6_copy 108 = .ok (.iload_n 2, 1) := by decide +kernel
theorem dX6_copy_109 : decode cX6_copy 109 = .ok (.aload 7, 2) := by decide +kernel
theorem dX6_copy_111 : decode cX6_copy 111 = .ok (.getfield 150, 3) := by decide +kernel
theorem dX6_copy_114 : decode cX6_copy 114 = .ok (.iload 4, 2) := by decide +kernel
theorem dX6_copy_116 : decode cX6_copy 116 = .ok (.iload 5, 2) := by decide +kernel
theorem dX6_copy_118 : decode cX6_copy 118 = .ok (.invokestatic 214, 3) := by decide +kernel
theorem dX6_copy_121 : decode cX6_copy 121 = .ok (.iload 5, 2) := by decide +kernel
theorem dX6_copy_123 : decode cX6_copy 123 = .ok (.ireturn, 1) := by decide +kernel
theorem dX6_tell_0 : decode cX6_tell 0 = .ok (.aload_n 0, 1) := by decide +kernel
theorem dX6_tell_1 : decode cX6_tell 1 = .ok (.getfield 12, 3) := by decide +kernel
theorem dX6_tell_4 : decode cX6_tell 4 = .ok (.iload_n 1, 1) := by decide +kernel
theorem dX6_tell_5 : decode cX6_tell 5 = .ok (.invokevirtual 88, 3) := by decide +kernel
theorem dX6_tell_8 : decode cX6_tell 8 = .ok (.astore_n 2, 1) := by decide +kernel
theorem dX6_tell_9 : decode cX6_tell 9 = .ok (.aload_n 2, 1) := by decide +kernel
theorem dX6_tell_10 : decode cX6_tell 10 = .ok (.ifnonnull 5, 3) := by decide +kernel
theorem dX6_tell_13 : decode cX6_tell 13 = .ok (.iconst (-1), 1) := by decide +kernel
theorem dX6_tell_14 : decode cX6_tell 14 = .ok (.ireturn, 1) := by decide +kernel
theorem dX6_tell_15 : decode cX6_tell 15 = .ok (.aload_n 2, 1) := by decide +kernel
theorem dX6_tell_16 : decode cX6_tell 16 = .ok (.getfield 92, 3) := by decide +kernel
theorem dX6_tell_19 : decode cX6_tell 19 = .ok (.lookupswitch 37 #[(1, 31), (2, 25)], 25) := by decide +kernel
theorem dX6_tell_44 : decode cX6_tell 44 = .ok (.aload_n 0, 1) := by decide +kernel
theorem dX6_tell_45 : decode cX6_tell 45 = .ok (.aload_n 2, 1) := by decide +kernel
theorem dX6_tell_46 : decode cX6_tell 46 = .ok (.invokevirtual 220, 3) := by decide +kernel
theorem dX6_tell_49 : decode cX6_tell 49 = .ok (.ireturn, 1) := by decide +kernel
theorem dX6_tell_50 : decode cX6_tell 50 = .ok (.aload_n 0, 1) := by decide +kernel
theorem dX6_tell_51 : decode cX6_tell 51 = .ok (.aload_n 2, 1) := by decide +kernel
theorem dX6_tell_52 : decode cX6_tell 52 = .ok (.invokevirtual 224, 3) := by decide +kernel
theorem dX6_tell_55 : decode cX6_tell 55 = .ok (.ireturn, 1) := by decide +kernel
theorem dX6_tell_56 : decode cX6_tell 56 = .ok (.aload_n 0, 1) := by decide +kernel
theorem dX6_tell_57 : decode cX6_tell 57 = .ok (.aload_n 2, 1) := by decide +kernel
theorem dX6_tell_58 : decode cX6_tell 58 = .ok (.invokevirtual 227, 3) := by decide +kernel
theorem dX6_tell_61 : decode cX6_tell 61 = .ok (.ireturn, 1) := by decide +kernel
theorem dX6_plainTells_0 : decode cX6_plainTells 0 = .ok (.aload_n 0, 1) := by decide +kernel
theorem dX6_plainTells_1 : decode cX6_plainTells 1 = .ok (.iconst 1, 1) := by decide +kernel
theorem dX6_plainTells_2 : decode cX6_plainTells 2 = .ok (.invokevirtual 230, 3) := by decide +kernel
theorem dX6_plainTells_5 : decode cX6_plainTells 5 = .ok (.aload_n 1, 1) := by decide +kernel
theorem dX6_plainTells_6 : decode cX6_plainTells 6 = .ok (.getfield 97, 3) := by decide +kernel
theorem dX6_plainTells_9 : decode cX6_plainTells 9 = .ok (.ireturn, 1) := by decide +kernel
theorem dX6_broadTells_0 : decode cX6_broadTells 0 = .ok (.aload_n 0, 1) := by decide +kernel
theorem dX6_broadTells_1 : decode cX6_broadTells 1 = .ok (.iconst 2, 1) := by decide +kernel
theorem dX6_broadTells_2 : decode cX6_broadTells 2 = .ok (.invokevirtual 230, 3) := by decide +kernel
theorem dX6_broadTells_5 : decode cX6_broadTells 5 = .ok (.aload_n 0, 1) := by decide +kernel
theorem dX6_broadTells_6 : decode cX6_broadTells 6 = .ok (.aload_n 1, 1) := by decide +kernel
theorem dX6_broadTells_7 : decode cX6_broadTells 7 = .ok (.invokevirtual 227, 3) := by decide +kernel
theorem dX6_broadTells_10 : decode cX6_broadTells 10 = .ok (.bipush 100, 2) := by decide +kernel
theorem dX6_broadTells_12 : decode cX6_broadTells 12 = .ok (.iadd, 1) := by decide +kernel
theorem dX6_broadTells_13 : decode cX6_broadTells 13 = .ok (.ireturn, 1) := by decide +kernel
theorem dX6_evenTells_0 : decode cX6_evenTells 0 = .ok (.aload_n 0, 1) := by decide +kernel
theorem dX6_evenTells_1 : decode cX6_evenTells 1 = .ok (.iconst 3, 1) := by decide +kernel
theorem dX6_evenTells_2 : decode cX6_evenTells 2 = .ok (.invokevirtual 230, 3) := by decide +kernel
theorem dX6_evenTells_5 : decode cX6_evenTells 5 = .ok (.aload_n 0, 1) := by decide +kernel
theorem dX6_evenTells_6 : decode cX6_evenTells 6 = .ok (.aload_n 1, 1) := by decide +kernel
theorem dX6_evenTells_7 : decode cX6_evenTells 7 = .ok (.invokevirtual 224, 3) := by decide +kernel
theorem dX6_evenTells_10 : decode cX6_evenTells 10 = .ok (.istore_n 2, 1) := by decide +kernel
theorem dX6_evenTells_11 : decode cX6_evenTells 11 = .ok (.iload_n 2, 1) := by decide +kernel
theorem dX6_evenTells_12 : decode cX6_evenTells 12 = .ok (.aload_n 0, 1) := by decide +kernel
theorem dX6_evenTells_13 : decode cX6_evenTells 13 = .ok (.aload_n 1, 1) := by decide +kernel
theorem dX6_evenTells_14 : decode cX6_evenTells 14 = .ok (.invokevirtual 227, 3) := by decide +kernel
theorem dX6_evenTells_17 : decode cX6_evenTells 17 = .ok (.iadd, 1) := by decide +kernel
theorem dX6_evenTells_18 : decode cX6_evenTells 18 = .ok (.ireturn, 1) := by decide +kernel
theorem dX6_click_0 : decode cX6_click 0 = .ok (.aload_n 0, 1) := by decide +kernel
theorem dX6_click_1 : decode cX6_click 1 = .ok (.getfield 12, 3) := by decide +kernel
theorem dX6_click_4 : decode cX6_click 4 = .ok (.iload_n 1, 1) := by decide +kernel
theorem dX6_click_5 : decode cX6_click 5 = .ok (.invokevirtual 88, 3) := by decide +kernel
theorem dX6_click_8 : decode cX6_click 8 = .ok (.astore_n 2, 1) := by decide +kernel
theorem dX6_click_9 : decode cX6_click 9 = .ok (.aload_n 2, 1) := by decide +kernel
theorem dX6_click_10 : decode cX6_click 10 = .ok (.ifnonnull 5, 3) := by decide +kernel
theorem dX6_click_13 : decode cX6_click 13 = .ok (.iconst (-1), 1) := by decide +kernel
theorem dX6_click_14 : decode cX6_click 14 = .ok (.ireturn, 1) := by decide +kernel
theorem dX6_click_15 : decode cX6_click 15 = .ok (.aload_n 2, 1) := by decide +kernel
theorem dX6_click_16 : decode cX6_click 16 = .ok (.getfield 92, 3) := by decide +kernel
theorem dX6_click_19 : decode cX6_click 19 = .ok (.iconst 2, 1) := by decide +kernel
theorem dX6_click_20 : decode cX6_click 20 = .ok (.if_icmp .ne 11, 3) := by decide +kernel
theorem dX6_click_23 : decode cX6_click 23 = .ok (.aload_n 0, 1) := by decide +kernel
theorem dX6_click_24 : decode cX6_click 24 = .ok (.iconst 5, 1) := by decide +kernel
theorem dX6_click_25 : decode cX6_click 25 = .ok (.invokevirtual 230, 3) := by decide +kernel
theorem dX6_click_28 : decode cX6_click 28 = .ok (.bipush 90, 2) := by decide +kernel
theorem dX6_click_30 : decode cX6_click 30 = .ok (.ireturn, 1) := by decide +kernel
theorem dX6_click_31 : decode cX6_click 31 = .ok (.aload_n 0, 1) := by decide +kernel
theorem dX6_click_32 : decode cX6_click 32 = .ok (.iconst 4, 1) := by decide +kernel
theorem dX6_click_33 : decode cX6_click 33 = .ok (.invokevirtual 230, 3) := by decide +kernel
theorem dX6_click_36 : decode cX6_click 36 = .ok (.aload_n 2, 1) := by decide +kernel
theorem dX6_click_37 : decode cX6_click 37 = .ok (.getfield 104, 3) := by decide +kernel
theorem dX6_click_40 : decode cX6_click 40 = .ok (.ireturn, 1) := by decide +kernel
theorem dX6_leave_0 : decode cX6_leave 0 = .ok (.aload_n 0, 1) := by decide +kernel
theorem dX6_leave_1 : decode cX6_leave 1 = .ok (.bipush 31, 2) := by decide +kernel
theorem dX6_leave_3 : decode cX6_leave 3 = .ok (.aload_n 0, 1) := by decide +kernel
theorem dX6_leave_4 : decode cX6_leave 4 = .ok (.getfield 234, 3) := by decide +kernel
theorem dX6_leave_7 : decode cX6_leave 7 = .ok (.imul, 1) := by decide +kernel
theorem dX6_leave_8 : decode cX6_leave 8 = .ok (.iload_n 1, 1) := by decide +kernel
theorem dX6_leave_9 : decode cX6_leave 9 = .ok (.iadd, 1) := by decide +kernel
theorem dX6_leave_10 : decode cX6_leave 10 = .ok (.putfield 234, 3) := by decide +kernel
theorem dX6_leave_13 : decode cX6_leave 13 = .ok (.return_, 1) := by decide +kernel
theorem dX6_as_0 : decode cX6_as 0 = .ok (.aload_n 0, 1) := by decide +kernel
theorem dX6_as_1 : decode cX6_as 1 = .ok (.iconst 0, 1) := by decide +kernel
theorem dX6_as_2 : decode cX6_as 2 = .ok (.putfield 52, 3) := by decide +kernel
theorem dX6_as_5 : decode cX6_as 5 = .ok (.aload_n 0, 1) := by decide +kernel
theorem dX6_as_6 : decode cX6_as 6 = .ok (.getfield 12, 3) := by decide +kernel
theorem dX6_as_9 : decode cX6_as 9 = .ok (.iload_n 1, 1) := by decide +kernel
theorem dX6_as_10 : decode cX6_as 10 = .ok (.invokevirtual 88, 3) := by decide +kernel
theorem dX6_as_13 : decode cX6_as 13 = .ok (.astore_n 3, 1) := by decide +kernel
theorem dX6_as_14 : decode cX6_as 14 = .ok (.aload_n 3, 1) := by decide +kernel
theorem dX6_as_15 : decode cX6_as 15 = .ok (.ifnonnull 5, 3) := by decide +kernel
theorem dX6_as_18 : decode cX6_as 18 = .ok (.iconst (-1), 1) := by decide +kernel
theorem dX6_as_19 : decode cX6_as 19 = .ok (.ireturn, 1) := by decide +kernel
theorem dX6_as_20 : decode cX6_as 20 = .ok (.iload_n 2, 1) := by decide +kernel
theorem dX6_as_21 : decode cX6_as 21 = .ok (.ifCond .lt 8, 3) := by decide +kernel
theorem dX6_as_24 : decode cX6_as 24 = .ok (.iload_n 2, 1) := by decide +kernel
theorem dX6_as_25 : decode cX6_as 25 = .ok (.iconst 2, 1) := by decide +kernel
theorem dX6_as_26 : decode cX6_as 26 = .ok (.if_icmp .le 6, 3) := by decide +kernel
theorem dX6_as_29 : decode cX6_as 29 = .ok (.bipush (-2), 2) := by decide +kernel
theorem dX6_as_31 : decode cX6_as 31 = .ok (.ireturn, 1) := by decide +kernel
theorem dX6_as_32 : decode cX6_as 32 = .ok (.aload_n 3, 1) := by decide +kernel
theorem dX6_as_33 : decode cX6_as 33 = .ok (.getfield 92, 3) := by decide +kernel
theorem dX6_as_36 : decode cX6_as 36 = .ok (.iload_n 2, 1) := by decide +kernel
theorem dX6_as_37 : decode cX6_as 37 = .ok (.if_icmp .lt 7, 3) := by decide +kernel
theorem dX6_as_40 : decode cX6_as 40 = .ok (.iconst 1, 1) := by decide +kernel
theorem dX6_as_41 : decode cX6_as 41 = .ok (.goto 8, 3) := by decide +kernel
theorem dX6_as_44 : decode cX6_as 44 = .ok (.aload_n 0, 1) := by decide +kernel
theorem dX6_as_45 : decode cX6_as 45 = .ok (.iconst 2, 1) := by decide +kernel
theorem dX6_as_46 : decode cX6_as 46 = .ok (.invokevirtual 67, 3) := by decide +kernel
theorem dX6_as_49 : decode cX6_as 49 = .ok (.ireturn, 1) := by decide +kernel
theorem dX6_trace_0 : decode cX6_trace 0 = .ok (.aload_n 0, 1) := by decide +kernel
theorem dX6_trace_1 : decode cX6_trace 1 = .ok (.getfield 234, 3) := by decide +kernel
theorem dX6_trace_4 : decode cX6_trace 4 = .ok (.ireturn, 1) := by decide +kernel
theorem dX6_fault_0 : decode cX6_fault 0 = .ok (.aload_n 0, 1) := by decide +kernel
theorem dX6_fault_1 : decode cX6_fault 1 = .ok (.getfield 52, 3) := by decide +kernel
theorem dX6_fault_4 : decode cX6_fault 4 = .ok (.ireturn, 1) := by decide +kernel
theorem dX6_many_0 : decode cX6_many 0 = .ok (.iload_n 1, 1) := by decide +kernel
theorem dX6_many_1 : decode cX6_many 1 = .ok (.tableswitch 69 0 4 #[35, 43, 51, 59, 64], 35) := by decide +kernel
theorem dX6_many_36 : decode cX6_many 36 = .ok (.aload_n 0, 1) := by decide +kernel
theorem dX6_many_37 : decode cX6_many 37 = .ok (.getfield 12, 3) := by decide +kernel
theorem dX6_many_40 : decode cX6_many 40 = .ok (.getfield 85, 3) := by decide +kernel
theorem dX6_many_43 : decode cX6_many 43 = .ok (.ireturn, 1) := by decide +kernel
theorem dX6_many_44 : decode cX6_many 44 = .ok (.aload_n 0, 1) := by decide +kernel
theorem dX6_many_45 : decode cX6_many 45 = .ok (.getfield 48, 3) := by decide +kernel
theorem dX6_many_48 : decode cX6_many 48 = .ok (.invokestatic 130, 3) := by decide +kernel
theorem dX6_many_51 : decode cX6_many 51 = .ok (.ireturn, 1) := by decide +kernel
theorem dX6_many_52 : decode cX6_many 52 = .ok (.aload_n 0, 1) := by decide +kernel
theorem dX6_many_53 : decode cX6_many 53 = .ok (.getfield 48, 3) := by decide +kernel
theorem dX6_many_56 : decode cX6_many 56 = .ok (.invokestatic 153, 3) := by decide +kernel
theorem dX6_many_59 : decode cX6_many 59 = .ok (.ireturn, 1) := by decide +kernel
theorem dX6_many_60 : decode cX6_many 60 = .ok (.aload_n 0, 1) := by decide +kernel
theorem dX6_many_61 : decode cX6_many 61 = .ok (.getfield 79, 3) := by decide +kernel
theorem dX6_many_64 : decode cX6_many 64 = .ok (.ireturn, 1) := by decide +kernel
theorem dX6_many_65 : decode cX6_many 65 = .ok (.aload_n 0, 1) := by decide +kernel
theorem dX6_many_66 : decode cX6_many 66 = .ok (.getfield 82, 3) := by decide +kernel
theorem dX6_many_69 : decode cX6_many 69 = .ok (.ireturn, 1) := by decide +kernel
theorem dX6_many_70 : decode cX6_many 70 = .ok (.bipush (-2), 2) := by decide +kernel
theorem dX6_many_72 : decode cX6_many 72 = .ok (.ireturn, 1) := by decide +kernel
theorem dX6_sheetOf_0 : decode cX6_sheetOf 0 = .ok (.iload_n 1, 1) := by decide +kernel
theorem dX6_sheetOf_1 : decode cX6_sheetOf 1 = .ok (.ifCond .lt 8, 3) := by decide +kernel
theorem dX6_sheetOf_4 : decode cX6_sheetOf 4 = .ok (.iload_n 1, 1) := by decide +kernel
theorem dX6_sheetOf_5 : decode cX6_sheetOf 5 = .ok (.iconst 4, 1) := by decide +kernel
theorem dX6_sheetOf_6 : decode cX6_sheetOf 6 = .ok (.if_icmp .lt 7, 3) := by decide +kernel
theorem dX6_sheetOf_9 : decode cX6_sheetOf 9 = .ok (.aconst_null, 1) := by decide +kernel
theorem dX6_sheetOf_10 : decode cX6_sheetOf 10 = .ok (.goto 9, 3) := by decide +kernel
theorem dX6_sheetOf_13 : decode cX6_sheetOf 13 = .ok (.aload_n 0, 1) := by decide +kernel
theorem dX6_sheetOf_14 : decode cX6_sheetOf 14 = .ok (.getfield 35, 3) := by decide +kernel
theorem dX6_sheetOf_17 : decode cX6_sheetOf 17 = .ok (.iload_n 1, 1) := by decide +kernel
theorem dX6_sheetOf_18 : decode cX6_sheetOf 18 = .ok (.aaload, 1) := by decide +kernel
theorem dX6_sheetOf_19 : decode cX6_sheetOf 19 = .ok (.areturn, 1) := by decide +kernel
theorem dX6_isLane_0 : decode cX6_isLane 0 = .ok (.iload_n 0, 1) := by decide +kernel
theorem dX6_isLane_1 : decode cX6_isLane 1 = .ok (.ifCond .lt 12, 3) := by decide +kernel
theorem dX6_isLane_4 : decode cX6_isLane 4 = .ok (.iload_n 0, 1) := by decide +kernel
theorem dX6_isLane_5 : decode cX6_isLane 5 = .ok (.iconst 2, 1) := by decide +kernel
theorem dX6_isLane_6 : decode cX6_isLane 6 = .ok (.if_icmp .gt 7, 3) := by decide +kernel
theorem dX6_isLane_9 : decode cX6_isLane 9 = .ok (.iconst 1, 1) := by decide +kernel
theorem dX6_isLane_10 : decode cX6_isLane 10 = .ok (.goto 4, 3) := by decide +kernel
theorem dX6_isLane_13 : decode cX6_isLane 13 = .ok (.iconst 0, 1) := by decide +kernel
theorem dX6_isLane_14 : decode cX6_isLane 14 = .ok (.ireturn, 1) := by decide +kernel
theorem dX6_meet_0 : decode cX6_meet 0 = .ok (.aload_n 0, 1) := by decide +kernel
theorem dX6_meet_1 : decode cX6_meet 1 = .ok (.iload_n 1, 1) := by decide +kernel
theorem dX6_meet_2 : decode cX6_meet 2 = .ok (.putfield 52, 3) := by decide +kernel
theorem dX6_meet_5 : decode cX6_meet 5 = .ok (.bipush (-10), 2) := by decide +kernel
theorem dX6_meet_7 : decode cX6_meet 7 = .ok (.iload_n 1, 1) := by decide +kernel
theorem dX6_meet_8 : decode cX6_meet 8 = .ok (.isub, 1) := by decide +kernel
theorem dX6_meet_9 : decode cX6_meet 9 = .ok (.ireturn, 1) := by decide +kernel
theorem dX7_init_0 : decode cX7_init 0 = .ok (.aload_n 0, 1) := by decide +kernel
theorem dX7_init_1 : decode cX7_init 1 = .ok (.invokespecial 1, 3) := by decide +kernel
theorem dX7_init_4 : decode cX7_init 4 = .ok (.aload_n 0, 1) := by decide +kernel
theorem dX7_init_5 : decode cX7_init 5 = .ok (.iconst 4, 1) := by decide +kernel
theorem dX7_init_6 : decode cX7_init 6 = .ok (.newarray .int, 2) := by decide +kernel
theorem dX7_init_8 : decode cX7_init 8 = .ok (.dup, 1) := by decide +kernel
theorem dX7_init_9 : decode cX7_init 9 = .ok (.iconst 0, 1) := by decide +kernel
theorem dX7_init_10 : decode cX7_init 10 = .ok (.bipush (-9), 2) := by decide +kernel
theorem dX7_init_12 : decode cX7_init 12 = .ok (.iastore, 1) := by decide +kernel
theorem dX7_init_13 : decode cX7_init 13 = .ok (.dup, 1) := by decide +kernel
theorem dX7_init_14 : decode cX7_init 14 = .ok (.iconst 1, 1) := by decide +kernel
theorem dX7_init_15 : decode cX7_init 15 = .ok (.bipush (-9), 2) := by decide +kernel
theorem dX7_init_17 : decode cX7_init 17 = .ok (.iastore, 1) := by decide +kernel
theorem dX7_init_18 : decode cX7_init 18 = .ok (.dup, 1) := by decide +kernel
theorem dX7_init_19 : decode cX7_init 19 = .ok (.iconst 2, 1) := by decide +kernel
theorem dX7_init_20 : decode cX7_init 20 = .ok (.bipush (-9), 2) := by decide +kernel
theorem dX7_init_22 : decode cX7_init 22 = .ok (.iastore, 1) := by decide +kernel
theorem dX7_init_23 : decode cX7_init 23 = .ok (.dup, 1) := by decide +kernel
theorem dX7_init_24 : decode cX7_init 24 = .ok (.iconst 3, 1) := by decide +kernel
theorem dX7_init_25 : decode cX7_init 25 = .ok (.bipush (-9), 2) := by decide +kernel
theorem dX7_init_27 : decode cX7_init 27 = .ok (.iastore, 1) := by decide +kernel
theorem dX7_init_28 : decode cX7_init 28 = .ok (.putfield 9, 3) := by decide +kernel
theorem dX7_init_31 : decode cX7_init 31 = .ok (.aload_n 0, 1) := by decide +kernel
theorem dX7_init_32 : decode cX7_init 32 = .ok (.iconst 4, 1) := by decide +kernel
theorem dX7_init_33 : decode cX7_init 33 = .ok (.newarray .int, 2) := by decide +kernel
theorem dX7_init_35 : decode cX7_init 35 = .ok (.putfield 13, 3) := by decide +kernel
theorem dX7_init_38 : decode cX7_init 38 = .ok (.aload_n 0, 1) := by decide +kernel
theorem dX7_init_39 : decode cX7_init 39 = .ok (.sipush 240, 3) := by decide +kernel
theorem dX7_init_42 : decode cX7_init 42 = .ok (.newarray .int, 2) := by decide +kernel
theorem dX7_init_44 : decode cX7_init 44 = .ok (.putfield 16, 3) := by decide +kernel
theorem dX7_init_47 : decode cX7_init 47 = .ok (.aload_n 0, 1) := by decide +kernel
theorem dX7_init_48 : decode cX7_init 48 = .ok (.iconst 3, 1) := by decide +kernel
theorem dX7_init_49 : decode cX7_init 49 = .ok (.newarray .int, 2) := by decide +kernel
theorem dX7_init_51 : decode cX7_init 51 = .ok (.putfield 19, 3) := by decide +kernel
theorem dX7_init_54 : decode cX7_init 54 = .ok (.aload_n 0, 1) := by decide +kernel
theorem dX7_init_55 : decode cX7_init 55 = .ok (.iconst 3, 1) := by decide +kernel
theorem dX7_init_56 : decode cX7_init 56 = .ok (.newarray .int, 2) := by decide +kernel
theorem dX7_init_58 : decode cX7_init 58 = .ok (.putfield 22, 3) := by decide +kernel
theorem dX7_init_61 : decode cX7_init 61 = .ok (.aload_n 0, 1) := by decide +kernel
theorem dX7_init_62 : decode cX7_init 62 = .ok (.iconst 3, 1) := by decide +kernel
theorem dX7_init_63 : decode cX7_init 63 = .ok (.newarray .int, 2) := by decide +kernel
theorem dX7_init_65 : decode cX7_init 65 = .ok (.putfield 25, 3) := by decide +kernel
theorem dX7_init_68 : decode cX7_init 68 = .ok (.aload_n 0, 1) := by decide +kernel
theorem dX7_init_69 : decode cX7_init 69 = .ok (.bipush 12, 2) := by decide +kernel
theorem dX7_init_71 : decode cX7_init 71 = .ok (.newarray .int, 2) := by decide +kernel
theorem dX7_init_73 : decode cX7_init 73 = .ok (.putfield 28, 3) := by decide +kernel
theorem dX7_init_76 : decode cX7_init 76 = .ok (.aload_n 0, 1) := by decide +kernel
theorem dX7_init_77 : decode cX7_init 77 = .ok (.iconst 3, 1) := by decide +kernel
theorem dX7_init_78 : decode cX7_init 78 = .ok (.newarray .int, 2) := by decide +kernel
theorem dX7_init_80 : decode cX7_init 80 = .ok (.putfield 31, 3) := by decide +kernel
theorem dX7_init_83 : decode cX7_init 83 = .ok (.aload_n 0, 1) := by decide +kernel
theorem dX7_init_84 : decode cX7_init 84 = .ok (.iconst 3, 1) := by decide +kernel
theorem dX7_init_85 : decode cX7_init 85 = .ok (.newarray .int, 2) := by decide +kernel
theorem dX7_init_87 : decode cX7_init 87 = .ok (.putfield 34, 3) := by decide +kernel
theorem dX7_init_90 : decode cX7_init 90 = .ok (.aload_n 0, 1) := by decide +kernel
theorem dX7_init_91 : decode cX7_init 91 = .ok (.iconst 3, 1) := by decide +kernel
theorem dX7_init_92 : decode cX7_init 92 = .ok (.newarray .int, 2) := by decide +kernel
theorem dX7_init_94 : decode cX7_init 94 = .ok (.putfield 37, 3) := by decide +kernel
theorem dX7_init_97 : decode cX7_init 97 = .ok (.aload_n 0, 1) := by decide +kernel
theorem dX7_init_98 : decode cX7_init 98 = .ok (.bipush 12, 2) := by decide +kernel
theorem dX7_init_100 : decode cX7_init 100 = .ok (.newarray .int, 2) := by decide +kernel
theorem dX7_init_102 : decode cX7_init 102 = .ok (.putfield 40, 3) := by decide +kernel
theorem dX7_init_105 : decode cX7_init 105 = .ok (.aload_n 0, 1) := by decide +kernel
theorem dX7_init_106 : decode cX7_init 106 = .ok (.iconst 3, 1) := by decide +kernel
theorem dX7_init_107 : decode cX7_init 107 = .ok (.newarray .int, 2) := by decide +kernel
theorem dX7_init_109 : decode cX7_init 109 = .ok (.putfield 43, 3) := by decide +kernel
theorem dX7_init_112 : decode cX7_init 112 = .ok (.aload_n 0, 1) := by decide +kernel
theorem dX7_init_113 : decode cX7_init 113 = .ok (.iconst 5, 1) := by decide +kernel
theorem dX7_init_114 : decode cX7_init 114 = .ok (.newarray .int, 2) := by decide +kernel
theorem dX7_init_116 : decode cX7_init 116 = .ok (.putfield 46, 3) := by decide +kernel
theorem dX7_init_119 : decode cX7_init 119 = .ok (.aload_n 0, 1) := by decide +kernel
theorem dX7_init_120 : decode cX7_init 120 = .ok (.iconst 3, 1) := by decide +kernel
theorem dX7_init_121 : decode cX7_init 121 = .ok (.newarray .int, 2) := by decide +kernel
theorem dX7_init_123 : decode cX7_init 123 = .ok (.putfield 49, 3) := by decide +kernel
theorem dX7_init_126 : decode cX7_init 126 = .ok (.aload_n 0, 1) := by decide +kernel
theorem dX7_init_127 : decode cX7_init 127 = .ok (.iconst 3, 1) := by decide +kernel
theorem dX7_init_128 : decode cX7_init 128 = .ok (.newarray .int, 2) := by decide +kernel
theorem dX7_init_130 : decode cX7_init 130 = .ok (.putfield 52, 3) := by decide +kernel
theorem dX7_init_133 : decode cX7_init 133 = .ok (.aload_n 0, 1) := by decide +kernel
theorem dX7_init_134 : decode cX7_init 134 = .ok (.iconst 3, 1) := by decide +kernel
theorem dX7_init_135 : decode cX7_init 135 = .ok (.newarray .int, 2) := by decide +kernel
theorem dX7_init_137 : decode cX7_init 137 = .ok (.putfield 55, 3) := by decide +kernel
theorem dX7_init_140 : decode cX7_init 140 = .ok (.aload_n 0, 1) := by decide +kernel
theorem dX7_init_141 : decode cX7_init 141 = .ok (.ldc 58, 2) := by decide +kernel
theorem dX7_init_143 : decode cX7_init 143 = .ok (.newarray .int, 2) := by decide +kernel
theorem dX7_init_145 : decode cX7_init 145 = .ok (.putfield 59, 3) := by decide +kernel
theorem dX7_init_148 : decode cX7_init 148 = .ok (.aload_n 0, 1) := by decide +kernel
theorem dX7_init_149 : decode cX7_init 149 = .ok (.sipush 7737, 3) := by decide +kernel
theorem dX7_init_152 : decode cX7_init 152 = .ok (.newarray .int, 2) := by decide +kernel
theorem dX7_init_154 : decode cX7_init 154 = .ok (.putfield 62, 3) := by decide +kernel
theorem dX7_init_157 : decode cX7_init 157 = .ok (.aload_n 0, 1) := by decide +kernel
theorem dX7_init_158 : decode cX7_init 158 = .ok (.sipush 7737, 3) := by decide +kernel
theorem dX7_init_161 : decode cX7_init 161 = .ok (.newarray .int, 2) := by decide +kernel
theorem dX7_init_163 : decode cX7_init 163 = .ok (.putfield 65, 3) := by decide +kernel
theorem dX7_init_166 : decode cX7_init 166 = .ok (.aload_n 0, 1) := by decide +kernel
theorem dX7_init_167 : decode cX7_init 167 = .ok (.bipush 8, 2) := by decide +kernel
theorem dX7_init_169 : decode cX7_init 169 = .ok (.newarray .int, 2) := by decide +kernel
theorem dX7_init_171 : decode cX7_init 171 = .ok (.putfield 68, 3) := by decide +kernel
theorem dX7_init_174 : decode cX7_init 174 = .ok (.aload_n 0, 1) := by decide +kernel
theorem dX7_init_175 : decode cX7_init 175 = .ok (.bipush 8, 2) := by decide +kernel
theorem dX7_init_177 : decode cX7_init 177 = .ok (.newarray .int, 2) := by decide +kernel
theorem dX7_init_179 : decode cX7_init 179 = .ok (.putfield 71, 3) := by decide +kernel

theorem dX7_bestNow_21 : decode cX7_bestNow 21 = .ok (.aload_n 0, 1) := by decide +kernel
theorem dX7_bestNow_22 : decode cX7_bestNow 22 = .ok (.iconst 1, 1) := by decide +kernel
theorem dX7_bestNow_23 : decode cX7_bestNow 23 = .ok (.invokevirtual 126, 3) := by decide +kernel
theorem dX7_bestNow_26 : decode cX7_bestNow 26 = .ok (.istore_n 3, 1) := by decide +kernel
theorem dX7_bestNow_27 : decode cX7_bestNow 27 = .ok (.iconst 2, 1) := by decide +kernel
theorem dX7_bestNow_28 : decode cX7_bestNow 28 = .ok (.istore 4, 2) := by decide +kernel
theorem dX7_bestNow_30 : decode cX7_bestNow 30 = .ok (.iload 4, 2) := by decide +kernel
theorem dX7_bestNow_32 : decode cX7_bestNow 32 = .ok (.iconst 5, 1) := by decide +kernel
theorem dX7_bestNow_33 : decode cX7_bestNow 33 = .ok (.if_icmp .gt 106, 3) := by decide +kernel
theorem dX7_bestNow_36 : decode cX7_bestNow 36 = .ok (.iload 4, 2) := by decide +kernel
theorem dX7_bestNow_38 : decode cX7_bestNow 38 = .ok (.iconst 5, 1) := by decide +kernel
theorem dX7_bestNow_39 : decode cX7_bestNow 39 = .ok (.if_icmp .ne 21, 3) := by decide +kernel
theorem dX7_bestNow_42 : decode cX7_bestNow 42 = .ok (.aload_n 0, 1) := by decide +kernel
theorem dX7_bestNow_43 : decode cX7_bestNow 43 = .ok (.iload_n 1, 1) := by decide +kernel
theorem dX7_bestNow_44 : decode cX7_bestNow 44 = .ok (.iconst 1, 1) := by decide +kernel
theorem dX7_bestNow_45 : decode cX7_bestNow 45 = .ok (.invokevirtual 123, 3) := by decide +kernel
theorem dX7_bestNow_48 : decode cX7_bestNow 48 = .ok (.iconst 1, 1) := by decide +kernel
theorem dX7_bestNow_49 : decode cX7_bestNow 49 = .ok (.if_icmp .ne 7, 3) := by decide +kernel
theorem dX7_bestNow_52 : decode cX7_bestNow 52 = .ok (.iconst 1, 1) := by decide +kernel
theorem dX7_bestNow_53 : decode cX7_bestNow 53 = .ok (.goto 23, 3) := by decide +kernel
theorem dX7_bestNow_56 : decode cX7_bestNow 56 = .ok (.iconst 0, 1) := by decide +kernel
theorem dX7_bestNow_57 : decode cX7_bestNow 57 = .ok (.goto 19, 3) := by decide +kernel
theorem dX7_bestNow_60 : decode cX7_bestNow 60 = .ok (.iload 4, 2) := by decide +kernel
theorem dX7_bestNow_62 : decode cX7_bestNow 62 = .ok (.aload_n 0, 1) := by decide +kernel
theorem dX7_bestNow_63 : decode cX7_bestNow 63 = .ok (.getfield 7, 3) := by decide +kernel
theorem dX7_bestNow_66 : decode cX7_bestNow 66 = .ok (.iconst 0, 1) := by decide +kernel
theorem dX7_bestNow_67 : decode cX7_bestNow 67 = .ok (.iaload, 1) := by decide +kernel
theorem dX7_bestNow_68 : decode cX7_bestNow 68 = .ok (.if_icmp .gt 7, 3) := by decide +kernel
theorem dX7_bestNow_71 : decode cX7_bestNow 71 = .ok (.iconst 1, 1) := by decide +kernel
theorem dX7_bestNow_72 : decode cX7_bestNow 72 = .ok (.goto 4, 3) := by decide +kernel
theorem dX7_bestNow_75 : decode cX7_bestNow 75 = .ok (.iconst 0, 1) := by decide +kernel
theorem dX7_bestNow_76 : decode cX7_bestNow 76 = .ok (.istore 5, 2) := by decide +kernel
theorem dX7_bestNow_78 : decode cX7_bestNow 78 = .ok (.iload 5, 2) := by decide +kernel
theorem dX7_bestNow_80 : decode cX7_bestNow 80 = .ok (.ifCond .eq 12, 3) := by decide +kernel
theorem dX7_bestNow_83 : decode cX7_bestNow 83 = .ok (.aload_n 0, 1) := by decide +kernel
theorem dX7_bestNow_84 : decode cX7_bestNow 84 = .ok (.iload 4, 2) := by decide +kernel
theorem dX7_bestNow_86 : decode cX7_bestNow 86 = .ok (.invokevirtual 126, 3) := by decide +kernel
theorem dX7_bestNow_89 : decode cX7_bestNow 89 = .ok (.goto 6, 3) := by decide +kernel
theorem dX7_bestNow_92 : decode cX7_bestNow 92 = .ok (.sipush (-500), 3) := by decide +kernel
theorem dX7_bestNow_95 : decode cX7_bestNow 95 = .ok (.istore 6, 2) := by decide +kernel
theorem dX7_bestNow_97 : decode cX7_bestNow 97 = .ok (.iload 5, 2) := by decide +kernel
theorem dX7_bestNow_99 : decode cX7_bestNow 99 = .ok (.ifCond .eq 14, 3) := by decide +kernel
theorem dX7_bestNow_102 : decode cX7_bestNow 102 = .ok (.iload 6, 2) := by decide +kernel
theorem dX7_bestNow_104 : decode cX7_bestNow 104 = .ok (.iload_n 3, 1) := by decide +kernel
theorem dX7_bestNow_105 : decode cX7_bestNow 105 = .ok (.if_icmp .le 8, 3) := by decide +kernel
theorem dX7_bestNow_108 : decode cX7_bestNow 108 = .ok (.iload 4, 2) := by decide +kernel
theorem dX7_bestNow_110 : decode cX7_bestNow 110 = .ok (.goto 4, 3) := by decide +kernel
theorem dX7_bestNow_113 : decode cX7_bestNow 113 = .ok (.iload_n 2, 1) := by decide +kernel
theorem dX7_bestNow_114 : decode cX7_bestNow 114 = .ok (.istore_n 2, 1) := by decide +kernel
theorem dX7_bestNow_115 : decode cX7_bestNow 115 = .ok (.iload 5, 2) := by decide +kernel
theorem dX7_bestNow_117 : decode cX7_bestNow 117 = .ok (.ifCond .eq 14, 3) := by decide +kernel
theorem dX7_bestNow_120 : decode cX7_bestNow 120 = .ok (.iload 6, 2) := by decide +kernel
theorem dX7_bestNow_122 : decode cX7_bestNow 122 = .ok (.iload_n 3, 1) := by decide +kernel
theorem dX7_bestNow_123 : decode cX7_bestNow 123 = .ok (.if_icmp .le 8, 3) := by decide +kernel
theorem dX7_bestNow_126 : decode cX7_bestNow 126 = .ok (.iload 6, 2) := by decide +kernel
theorem dX7_bestNow_128 : decode cX7_bestNow 128 = .ok (.goto 4, 3) := by decide +kernel
theorem dX7_bestNow_131 : decode cX7_bestNow 131 = .ok (.iload_n 3, 1) := by decide +kernel
theorem dX7_bestNow_132 : decode cX7_bestNow 132 = .ok (.istore_n 3, 1) := by decide +kernel
theorem dX7_bestNow_133 : decode cX7_bestNow 133 = .ok (.iinc 4 1, 3) := by decide +kernel
theorem dX7_bestNow_136 : decode cX7_bestNow 136 = .ok (.goto (-106), 3) := by decide +kernel
theorem dX7_bestNow_139 : decode cX7_bestNow 139 = .ok (.iload_n 2, 1) := by decide +kernel
theorem dX7_bestNow_140 : decode cX7_bestNow 140 = .ok (.ireturn, 1) := by decide +kernel
theorem dX7_greedyNow_0 : decode cX7_greedyNow 0 = .ok (.aload_n 0, 1) := by decide +kernel
theorem dX7_greedyNow_1 : decode cX7_greedyNow 1 = .ok (.getfield 7, 3) := by decide +kernel
theorem dX7_greedyNow_4 : decode cX7_greedyNow 4 = .ok (.bipush 17, 2) := by decide +kernel
theorem dX7_greedyNow_6 : decode cX7_greedyNow 6 = .ok (.iaload, 1) := by decide +kernel
theorem dX7_greedyNow_7 : decode cX7_greedyNow 7 = .ok (.istore_n 1, 1) := by decide +kernel
theorem dX7_greedyNow_8 : decode cX7_greedyNow 8 = .ok (.iconst 0, 1) := by decide +kernel
theorem dX7_greedyNow_9 : decode cX7_greedyNow 9 = .ok (.istore_n 2, 1) := by decide +kernel
theorem dX7_greedyNow_10 : decode cX7_greedyNow 10 = .ok (.iconst (-1), 1) := by decide +kernel
theorem dX7_greedyNow_11 : decode cX7_greedyNow 11 = .ok (.istore_n 3, 1) := by decide +kernel
theorem dX7_greedyNow_12 : decode cX7_greedyNow 12 = .ok (.iconst 1, 1) := by decide +kernel
theorem dX7_greedyNow_13 : decode cX7_greedyNow 13 = .ok (.istore 4, 2) := by decide +kernel
theorem dX7_greedyNow_15 : decode cX7_greedyNow 15 = .ok (.iload 4, 2) := by decide +kernel
theorem dX7_greedyNow_17 : decode cX7_greedyNow 17 = .ok (.aload_n 0, 1) := by decide +kernel
theorem dX7_greedyNow_18 : decode cX7_greedyNow 18 = .ok (.getfield 7, 3) := by decide +kernel
theorem dX7_greedyNow_21 : decode cX7_greedyNow 21 = .ok (.iconst 0, 1) := by decide +kernel
theorem dX7_greedyNow_22 : decode cX7_greedyNow 22 = .ok (.iaload, 1) := by decide +kernel
theorem dX7_greedyNow_23 : decode cX7_greedyNow 23 = .ok (.if_icmp .gt 72, 3) := by decide +kernel
theorem dX7_greedyNow_26 : decode cX7_greedyNow 26 = .ok (.aload_n 0, 1) := by decide +kernel
theorem dX7_greedyNow_27 : decode cX7_greedyNow 27 = .ok (.iload_n 1, 1) := by decide +kernel
theorem dX7_greedyNow_28 : decode cX7_greedyNow 28 = .ok (.iconst 2, 1) := by decide +kernel
theorem dX7_greedyNow_29 : decode cX7_greedyNow 29 = .ok (.invokevirtual 123, 3) := by decide +kernel
theorem dX7_greedyNow_32 : decode cX7_greedyNow 32 = .ok (.ifCond .ne 63, 3) := by decide +kernel
theorem dX7_greedyNow_35 : decode cX7_greedyNow 35 = .ok (.aload_n 0, 1) := by decide +kernel
theorem dX7_greedyNow_36 : decode cX7_greedyNow 36 = .ok (.aload_n 0, 1) := by decide +kernel
theorem dX7_greedyNow_37 : decode cX7_greedyNow 37 = .ok (.iload_n 1, 1) := by decide +kernel
theorem dX7_greedyNow_38 : decode cX7_greedyNow 38 = .ok (.iconst 0, 1) := by decide +kernel
theorem dX7_greedyNow_39 : decode cX7_greedyNow 39 = .ok (.invokevirtual 123, 3) := by decide +kernel
theorem dX7_greedyNow_42 : decode cX7_greedyNow 42 = .ok (.aload_n 0, 1) := by decide +kernel
theorem dX7_greedyNow_43 : decode cX7_greedyNow 43 = .ok (.iconst 1, 1) := by decide +kernel
theorem dX7_greedyNow_44 : decode cX7_greedyNow 44 = .ok (.iload_n 1, 1) := by decide +kernel
theorem dX7_greedyNow_45 : decode cX7_greedyNow 45 = .ok (.isub, 1) := by decide +kernel
theorem dX7_greedyNow_46 : decode cX7_greedyNow 46 = .ok (.iconst 0, 1) := by decide +kernel
theorem dX7_greedyNow_47 : decode cX7_greedyNow 47 = .ok (.invokevirtual 123, 3) := by decide +kernel
theorem dX7_greedyNow_50 : decode cX7_greedyNow 50 = .ok (.iload 4, 2) := by decide +kernel
theorem dX7_greedyNow_52 : decode cX7_greedyNow 52 = .ok (.bipush (-4), 2) := by decide +kernel
theorem dX7_greedyNow_54 : decode cX7_greedyNow 54 = .ok (.invokevirtual 85, 3) := by decide +kernel
theorem dX7_greedyNow_57 : decode cX7_greedyNow 57 = .ok (.aload_n 0, 1) := by decide +kernel
theorem dX7_greedyNow_58 : decode cX7_greedyNow 58 = .ok (.getfield 63, 3) := by decide +kernel
theorem dX7_greedyNow_61 : decode cX7_greedyNow 61 = .ok (.iload_n 3, 1) := by decide +kernel
theorem dX7_greedyNow_62 : decode cX7_greedyNow 62 = .ok (.if_icmp .le 8, 3) := by decide +kernel
theorem dX7_greedyNow_65 : decode cX7_greedyNow 65 = .ok (.iload 4, 2) := by decide +kernel
theorem dX7_greedyNow_67 : decode cX7_greedyNow 67 = .ok (.goto 4, 3) := by decide +kernel
theorem dX7_greedyNow_70 : decode cX7_greedyNow 70 = .ok (.iload_n 2, 1) := by decide +kernel
theorem dX7_greedyNow_71 : decode cX7_greedyNow 71 = .ok (.istore_n 2, 1) := by decide +kernel
theorem dX7_greedyNow_72 : decode cX7_greedyNow 72 = .ok (.aload_n 0, 1) := by decide +kernel
theorem dX7_greedyNow_73 : decode cX7_greedyNow 73 = .ok (.getfield 63, 3) := by decide +kernel
theorem dX7_greedyNow_76 : decode cX7_greedyNow 76 = .ok (.iload_n 3, 1) := by decide +kernel
theorem dX7_greedyNow_77 : decode cX7_greedyNow 77 = .ok (.if_icmp .le 10, 3) := by decide +kernel
theorem dX7_greedyNow_80 : decode cX7_greedyNow 80 = .ok (.aload_n 0, 1) := by decide +kernel
theorem dX7_greedyNow_81 : decode cX7_greedyNow 81 = .ok (.getfield 63, 3) := by decide +kernel
theorem dX7_greedyNow_84 : decode cX7_greedyNow 84 = .ok (.goto 4, 3) := by decide +kernel
theorem dX7_greedyNow_87 : decode cX7_greedyNow 87 = .ok (.iload_n 3, 1) := by decide +kernel
theorem dX7_greedyNow_88 : decode cX7_greedyNow 88 = .ok (.istore_n 3, 1) := by decide +kernel
theorem dX7_greedyNow_89 : decode cX7_greedyNow 89 = .ok (.iinc 4 1, 3) := by decide +kernel
theorem dX7_greedyNow_92 : decode cX7_greedyNow 92 = .ok (.goto (-77), 3) := by decide +kernel
theorem dX7_greedyNow_95 : decode cX7_greedyNow 95 = .ok (.iload_n 2, 1) := by decide +kernel
theorem dX7_greedyNow_96 : decode cX7_greedyNow 96 = .ok (.ireturn, 1) := by decide +kernel
theorem dX7_goesOn_0 : decode cX7_goesOn 0 = .ok (.aload_n 0, 1) := by decide +kernel
theorem dX7_goesOn_1 : decode cX7_goesOn 1 = .ok (.getfield 7, 3) := by decide +kernel
theorem dX7_goesOn_4 : decode cX7_goesOn 4 = .ok (.bipush 17, 2) := by decide +kernel
theorem dX7_goesOn_6 : decode cX7_goesOn 6 = .ok (.iaload, 1) := by decide +kernel
theorem dX7_goesOn_7 : decode cX7_goesOn 7 = .ok (.istore_n 1, 1) := by decide +kernel
theorem dX7_goesOn_8 : decode cX7_goesOn 8 = .ok (.aload_n 0, 1) := by decide +kernel
theorem dX7_goesOn_9 : decode cX7_goesOn 9 = .ok (.iload_n 1, 1) := by decide +kernel
theorem dX7_goesOn_10 : decode cX7_goesOn 10 = .ok (.iconst 3, 1) := by decide +kernel
theorem dX7_goesOn_11 : decode cX7_goesOn 11 = .ok (.aload_n 0, 1) := by decide +kernel
theorem dX7_goesOn_12 : decode cX7_goesOn 12 = .ok (.iload_n 1, 1) := by decide +kernel
theorem dX7_goesOn_13 : decode cX7_goesOn 13 = .ok (.iconst 3, 1) := by decide +kernel
theorem dX7_goesOn_14 : decode cX7_goesOn 14 = .ok (.invokevirtual 123, 3) := by decide +kernel
theorem dX7_goesOn_17 : decode cX7_goesOn 17 = .ok (.iconst 1, 1) := by decide +kernel
theorem dX7_goesOn_18 : decode cX7_goesOn 18 = .ok (.iadd, 1) := by decide +kernel
theorem dX7_goesOn_19 : decode cX7_goesOn 19 = .ok (.invokevirtual 42, 3) := by decide +kernel
theorem dX7_goesOn_22 : decode cX7_goesOn 22 = .ok (.aload_n 0, 1) := by decide +kernel
theorem dX7_goesOn_23 : decode cX7_goesOn 23 = .ok (.getfield 7, 3) := by decide +kernel
theorem dX7_goesOn_26 : decode cX7_goesOn 26 = .ok (.bipush 18, 2) := by decide +kernel
theorem dX7_goesOn_28 : decode cX7_goesOn 28 = .ok (.dup2, 1) := by decide +kernel
theorem dX7_goesOn_29 : decode cX7_goesOn 29 = .ok (.iaload, 1) := by decide +kernel
theorem dX7_goesOn_30 : decode cX7_goesOn 30 = .ok (.iconst 1, 1) := by decide +kernel
theorem dX7_goesOn_31 : decode cX7_goesOn 31 = .ok (.iadd, 1) := by decide +kernel
theorem dX7_goesOn_32 : decode cX7_goesOn 32 = .ok (.iastore, 1) := by decide +kernel
theorem dX7_goesOn_33 : decode cX7_goesOn 33 = .ok (.aload_n 0, 1) := by decide +kernel
theorem dX7_goesOn_34 : decode cX7_goesOn 34 = .ok (.getfield 7, 3) := by decide +kernel
theorem dX7_goesOn_37 : decode cX7_goesOn 37 = .ok (.bipush 17, 2) := by decide +kernel
theorem dX7_goesOn_39 : decode cX7_goesOn 39 = .ok (.iconst 1, 1) := by decide +kernel
theorem dX7_goesOn_40 : decode cX7_goesOn 40 = .ok (.iload_n 1, 1) := by decide +kernel
theorem dX7_goesOn_41 : decode cX7_goesOn 41 = .ok (.isub, 1) := by decide +kernel
theorem dX7_goesOn_42 : decode cX7_goesOn 42 = .ok (.iastore, 1) := by decide +kernel
theorem dX7_goesOn_43 : decode cX7_goesOn 43 = .ok (.return_, 1) := by decide +kernel
theorem dX7_makesDrive_0 : decode cX7_makesDrive 0 = .ok (.aload_n 0, 1) := by decide +kernel
theorem dX7_makesDrive_1 : decode cX7_makesDrive 1 = .ok (.getfield 7, 3) := by decide +kernel
theorem dX7_makesDrive_4 : decode cX7_makesDrive 4 = .ok (.bipush 17, 2) := by decide +kernel
theorem dX7_makesDrive_6 : decode cX7_makesDrive 6 = .ok (.iaload, 1) := by decide +kernel
theorem dX7_makesDrive_7 : decode cX7_makesDrive 7 = .ok (.istore_n 2, 1) := by decide +kernel
theorem dX7_makesDrive_8 : decode cX7_makesDrive 8 = .ok (.aload_n 0, 1) := by decide +kernel
theorem dX7_makesDrive_9 : decode cX7_makesDrive 9 = .ok (.aload_n 0, 1) := by decide +kernel
theorem dX7_makesDrive_10 : decode cX7_makesDrive 10 = .ok (.iload_n 2, 1) := by decide +kernel
theorem dX7_makesDrive_11 : decode cX7_makesDrive 11 = .ok (.iconst 0, 1) := by decide +kernel
theorem dX7_makesDrive_12 : decode cX7_makesDrive 12 = .ok (.invokevirtual 123, 3) := by decide +kernel
theorem dX7_makesDrive_15 : decode cX7_makesDrive 15 = .ok (.aload_n 0, 1) := by decide +kernel
theorem dX7_makesDrive_16 : decode cX7_makesDrive 16 = .ok (.iconst 1, 1) := by decide +kernel
theorem dX7_makesDrive_17 : decode cX7_makesDrive 17 = .ok (.iload_n 2, 1) := by decide +kernel
theorem dX7_makesDrive_18 : decode cX7_makesDrive 18 = .ok (.isub, 1) := by decide +kernel
theorem dX7_makesDrive_19 : decode cX7_makesDrive 19 = .ok (.iconst 0, 1) := by decide +kernel
theorem dX7_makesDrive_20 : decode cX7_makesDrive 20 = .ok (.invokevirtual 123, 3) := by decide +kernel
theorem dX7_makesDrive_23 : decode cX7_makesDrive 23 = .ok (.iload_n 1, 1) := by decide +kernel
theorem dX7_makesDrive_24 : decode cX7_makesDrive 24 = .ok (.iload_n 2, 1) := by decide +kernel
theorem dX7_makesDrive_25 : decode cX7_makesDrive 25 = .ok (.invokevirtual 85, 3) := by decide +kernel
theorem dX7_makesDrive_28 : decode cX7_makesDrive 28 = .ok (.aload_n 0, 1) := by decide +kernel
theorem dX7_makesDrive_29 : decode cX7_makesDrive 29 = .ok (.iload_n 2, 1) := by decide +kernel
theorem dX7_makesDrive_30 : decode cX7_makesDrive 30 = .ok (.iconst 0, 1) := by decide +kernel
theorem dX7_makesDrive_31 : decode cX7_makesDrive 31 = .ok (.aload_n 0, 1) := by decide +kernel
theorem dX7_makesDrive_32 : decode cX7_makesDrive 32 = .ok (.getfield 63, 3) := by decide +kernel
theorem dX7_makesDrive_35 : decode cX7_makesDrive 35 = .ok (.invokevirtual 42, 3) := by decide +kernel
theorem dX7_makesDrive_38 : decode cX7_makesDrive 38 = .ok (.aload_n 0, 1) := by decide +kernel
theorem dX7_makesDrive_39 : decode cX7_makesDrive 39 = .ok (.iload_n 2, 1) := by decide +kernel
theorem dX7_makesDrive_40 : decode cX7_makesDrive 40 = .ok (.iconst 5, 1) := by decide +kernel
theorem dX7_makesDrive_41 : decode cX7_makesDrive 41 = .ok (.aload_n 0, 1) := by decide +kernel
theorem dX7_makesDrive_42 : decode cX7_makesDrive 42 = .ok (.iload_n 2, 1) := by decide +kernel
theorem dX7_makesDrive_43 : decode cX7_makesDrive 43 = .ok (.iconst 5, 1) := by decide +kernel
theorem dX7_makesDrive_44 : decode cX7_makesDrive 44 = .ok (.invokevirtual 123, 3) := by decide +kernel
theorem dX7_makesDrive_47 : decode cX7_makesDrive 47 = .ok (.aload_n 0, 1) := by decide +kernel
theorem dX7_makesDrive_48 : decode cX7_makesDrive 48 = .ok (.getfield 57, 3) := by decide +kernel
theorem dX7_makesDrive_51 : decode cX7_makesDrive 51 = .ok (.iadd, 1) := by decide +kernel
theorem dX7_makesDrive_52 : decode cX7_makesDrive 52 = .ok (.invokevirtual 42, 3) := by decide +kernel
theorem dX7_makesDrive_55 : decode cX7_makesDrive 55 = .ok (.aload_n 0, 1) := by decide +kernel
theorem dX7_makesDrive_56 : decode cX7_makesDrive 56 = .ok (.iload_n 2, 1) := by decide +kernel
theorem dX7_makesDrive_57 : decode cX7_makesDrive 57 = .ok (.bipush 7, 2) := by decide +kernel
theorem dX7_makesDrive_59 : decode cX7_makesDrive 59 = .ok (.aload_n 0, 1) := by decide +kernel
theorem dX7_makesDrive_60 : decode cX7_makesDrive 60 = .ok (.iload_n 2, 1) := by decide +kernel
theorem dX7_makesDrive_61 : decode cX7_makesDrive 61 = .ok (.bipush 7, 2) := by decide +kernel
theorem dX7_makesDrive_63 : decode cX7_makesDrive 63 = .ok (.invokevirtual 123, 3) := by decide +kernel
theorem dX7_makesDrive_66 : decode cX7_makesDrive 66 = .ok (.aload_n 0, 1) := by decide +kernel
theorem dX7_makesDrive_67 : decode cX7_makesDrive 67 = .ok (.getfield 60, 3) := by decide +kernel
theorem dX7_makesDrive_70 : decode cX7_makesDrive 70 = .ok (.iadd, 1) := by decide +kernel
theorem dX7_makesDrive_71 : decode cX7_makesDrive 71 = .ok (.invokevirtual 42, 3) := by decide +kernel
theorem dX7_makesDrive_74 : decode cX7_makesDrive 74 = .ok (.aload_n 0, 1) := by decide +kernel
theorem dX7_makesDrive_75 : decode cX7_makesDrive 75 = .ok (.iload_n 2, 1) := by decide +kernel
theorem dX7_makesDrive_76 : decode cX7_makesDrive 76 = .ok (.iconst 2, 1) := by decide +kernel
theorem dX7_makesDrive_77 : decode cX7_makesDrive 77 = .ok (.aload_n 0, 1) := by decide +kernel
theorem dX7_makesDrive_78 : decode cX7_makesDrive 78 = .ok (.iload_n 2, 1) := by decide +kernel
theorem dX7_makesDrive_79 : decode cX7_makesDrive 79 = .ok (.iconst 2, 1) := by decide +kernel
theorem dX7_makesDrive_80 : decode cX7_makesDrive 80 = .ok (.invokevirtual 123, 3) := by decide +kernel
theorem dX7_makesDrive_83 : decode cX7_makesDrive 83 = .ok (.aload_n 0, 1) := by decide +kernel
theorem dX7_makesDrive_84 : decode cX7_makesDrive 84 = .ok (.getfield 78, 3) := by decide +kernel
theorem dX7_makesDrive_87 : decode cX7_makesDrive 87 = .ok (.iadd, 1) := by decide +kernel
theorem dX7_makesDrive_88 : decode cX7_makesDrive 88 = .ok (.invokevirtual 42, 3) := by decide +kernel
theorem dX7_makesDrive_91 : decode cX7_makesDrive 91 = .ok (.aload_n 0, 1) := by decide +kernel
theorem dX7_makesDrive_92 : decode cX7_makesDrive 92 = .ok (.iload_n 2, 1) := by decide +kernel
theorem dX7_makesDrive_93 : decode cX7_makesDrive 93 = .ok (.iconst 1, 1) := by decide +kernel
theorem dX7_makesDrive_94 : decode cX7_makesDrive 94 = .ok (.aload_n 0, 1) := by decide +kernel
theorem dX7_makesDrive_95 : decode cX7_makesDrive 95 = .ok (.getfield 81, 3) := by decide +kernel
theorem dX7_makesDrive_98 : decode cX7_makesDrive 98 = .ok (.ifCond .eq 7, 3) := by decide +kernel
theorem dX7_makesDrive_101 : decode cX7_makesDrive 101 = .ok (.iconst 1, 1) := by decide +kernel
theorem dX7_makesDrive_102 : decode cX7_makesDrive 102 = .ok (.goto 9, 3) := by decide +kernel
theorem dX7_makesDrive_105 : decode cX7_makesDrive 105 = .ok (.aload_n 0, 1) := by decide +kernel
theorem dX7_makesDrive_106 : decode cX7_makesDrive 106 = .ok (.iload_n 2, 1) := by decide +kernel
theorem dX7_makesDrive_107 : decode cX7_makesDrive 107 = .ok (.iconst 1, 1) := by decide +kernel
theorem dX7_makesDrive_108 : decode cX7_makesDrive 108 = .ok (.invokevirtual 123, 3) := by decide +kernel
theorem dX7_makesDrive_111 : decode cX7_makesDrive 111 = .ok (.invokevirtual 42, 3) := by decide +kernel
theorem dX7_makesDrive_114 : decode cX7_makesDrive 114 = .ok (.aload_n 0, 1) := by decide +kernel
theorem dX7_makesDrive_115 : decode cX7_makesDrive 115 = .ok (.invokevirtual 129, 3) := by decide +kernel
theorem dX7_makesDrive_118 : decode cX7_makesDrive 118 = .ok (.aload_n 0, 1) := by decide +kernel
theorem dX7_makesDrive_119 : decode cX7_makesDrive 119 = .ok (.getfield 63, 3) := by decide +kernel
theorem dX7_makesDrive_122 : decode cX7_makesDrive 122 = .ok (.aload_n 0, 1) := by decide +kernel
theorem dX7_makesDrive_123 : decode cX7_makesDrive 123 = .ok (.invokevirtual 53, 3) := by decide +kernel
theorem dX7_makesDrive_126 : decode cX7_makesDrive 126 = .ok (.if_icmp .ne 24, 3) := by decide +kernel
theorem dX7_makesDrive_129 : decode cX7_makesDrive 129 = .ok (.aload_n 0, 1) := by decide +kernel
theorem dX7_makesDrive_130 : decode cX7_makesDrive 130 = .ok (.getfield 7, 3) := by decide +kernel
theorem dX7_makesDrive_133 : decode cX7_makesDrive 133 = .ok (.bipush 22, 2) := by decide +kernel
theorem dX7_makesDrive_135 : decode cX7_makesDrive 135 = .ok (.iload_n 2, 1) := by decide +kernel
theorem dX7_makesDrive_136 : decode cX7_makesDrive 136 = .ok (.iastore, 1) := by decide +kernel
theorem dX7_makesDrive_137 : decode cX7_makesDrive 137 = .ok (.aload_n 0, 1) := by decide +kernel
theorem dX7_makesDrive_138 : decode cX7_makesDrive 138 = .ok (.getfield 7, 3) := by decide +kernel
theorem dX7_makesDrive_141 : decode cX7_makesDrive 141 = .ok (.bipush 20, 2) := by decide +kernel
theorem dX7_makesDrive_143 : decode cX7_makesDrive 143 = .ok (.iload_n 2, 1) := by decide +kernel
theorem dX7_makesDrive_144 : decode cX7_makesDrive 144 = .ok (.iadd, 1) := by decide +kernel
theorem dX7_makesDrive_145 : decode cX7_makesDrive 145 = .ok (.dup2, 1) := by decide +kernel
theorem dX7_makesDrive_146 : decode cX7_makesDrive 146 = .ok (.iaload, 1) := by decide +kernel
theorem dX7_makesDrive_147 : decode cX7_makesDrive 147 = .ok (.iconst 1, 1) := by decide +kernel
theorem dX7_makesDrive_148 : decode cX7_makesDrive 148 = .ok (.iadd, 1) := by decide +kernel
theorem dX7_makesDrive_149 : decode cX7_makesDrive 149 = .ok (.iastore, 1) := by decide +kernel
theorem dX7_makesDrive_150 : decode cX7_makesDrive 150 = .ok (.aload_n 0, 1) := by decide +kernel
theorem dX7_makesDrive_151 : decode cX7_makesDrive 151 = .ok (.iload_n 2, 1) := by decide +kernel
theorem dX7_makesDrive_152 : decode cX7_makesDrive 152 = .ok (.iconst 0, 1) := by decide +kernel
theorem dX7_makesDrive_153 : decode cX7_makesDrive 153 = .ok (.invokevirtual 123, 3) := by decide +kernel
theorem dX7_makesDrive_156 : decode cX7_makesDrive 156 = .ok (.ireturn, 1) := by decide +kernel
theorem dX7_makesToken_0 : decode cX7_makesToken 0 = .ok (.aload_n 0, 1) := by decide +kernel
theorem dX7_makesToken_1 : decode cX7_makesToken 1 = .ok (.getfield 7, 3) := by decide +kernel
theorem dX7_makesToken_4 : decode cX7_makesToken 4 = .ok (.bipush 17, 2) := by decide +kernel
theorem dX7_makesToken_6 : decode cX7_makesToken 6 = .ok (.iaload, 1) := by decide +kernel
theorem dX7_makesToken_7 : decode cX7_makesToken 7 = .ok (.istore_n 1, 1) := by decide +kernel
theorem dX7_makesToken_8 : decode cX7_makesToken 8 = .ok (.aload_n 0, 1) := by decide +kernel
theorem dX7_makesToken_9 : decode cX7_makesToken 9 = .ok (.iconst 1, 1) := by decide +kernel
theorem dX7_makesToken_10 : decode cX7_makesToken 10 = .ok (.iload_n 1, 1) := by decide +kernel
theorem dX7_makesToken_11 : decode cX7_makesToken 11 = .ok (.isub, 1) := by decide +kernel
theorem dX7_makesToken_12 : decode cX7_makesToken 12 = .ok (.iconst 2, 1) := by decide +kernel
theorem dX7_makesToken_13 : decode cX7_makesToken 13 = .ok (.invokevirtual 123, 3) := by decide +kernel
theorem dX7_makesToken_16 : decode cX7_makesToken 16 = .ok (.aload_n 0, 1) := by decide +kernel
theorem dX7_makesToken_17 : decode cX7_makesToken 17 = .ok (.getfield 7, 3) := by decide +kernel
theorem dX7_makesToken_20 : decode cX7_makesToken 20 = .ok (.iconst 1, 1) := by decide +kernel
theorem dX7_makesToken_21 : decode cX7_makesToken 21 = .ok (.iaload, 1) := by decide +kernel
theorem dX7_makesToken_22 : decode cX7_makesToken 22 = .ok (.iadd, 1) := by decide +kernel
theorem dX7_makesToken_23 : decode cX7_makesToken 23 = .ok (.istore_n 2, 1) := by decide +kernel
theorem dX7_makesToken_24 : decode cX7_makesToken 24 = .ok (.aload_n 0, 1) := by decide +kernel
theorem dX7_makesToken_25 : decode cX7_makesToken 25 = .ok (.iload_n 1, 1) := by decide +kernel
theorem dX7_makesToken_26 : decode cX7_makesToken 26 = .ok (.iconst 1, 1) := by decide +kernel
theorem dX7_makesToken_27 : decode cX7_makesToken 27 = .ok (.iconst 0, 1) := by decide +kernel
theorem dX7_makesToken_28 : decode cX7_makesToken 28 = .ok (.invokevirtual 42, 3) := by decide +kernel
theorem dX7_makesToken_31 : decode cX7_makesToken 31 = .ok (.aload_n 0, 1) := by decide +kernel
theorem dX7_makesToken_32 : decode cX7_makesToken 32 = .ok (.iload_n 1, 1) := by decide +kernel
theorem dX7_makesToken_33 : decode cX7_makesToken 33 = .ok (.bipush 6, 2) := by decide +kernel
theorem dX7_makesToken_35 : decode cX7_makesToken 35 = .ok (.aload_n 0, 1) := by decide +kernel
theorem dX7_makesToken_36 : decode cX7_makesToken 36 = .ok (.iload_n 1, 1) := by decide +kernel
theorem dX7_makesToken_37 : decode cX7_makesToken 37 = .ok (.bipush 6, 2) := by decide +kernel
theorem dX7_makesToken_39 : decode cX7_makesToken 39 = .ok (.invokevirtual 123, 3) := by decide +kernel
theorem dX7_makesToken_42 : decode cX7_makesToken 42 = .ok (.iconst 1, 1) := by decide +kernel
theorem dX7_makesToken_43 : decode cX7_makesToken 43 = .ok (.iadd, 1) := by decide +kernel
theorem dX7_makesToken_44 : decode cX7_makesToken 44 = .ok (.invokevirtual 42, 3) := by decide +kernel
theorem dX7_makesToken_47 : decode cX7_makesToken 47 = .ok (.aload_n 0, 1) := by decide +kernel
theorem dX7_makesToken_48 : decode cX7_makesToken 48 = .ok (.iconst 1, 1) := by decide +kernel
theorem dX7_makesToken_49 : decode cX7_makesToken 49 = .ok (.iload_n 1, 1) := by decide +kernel
theorem dX7_makesToken_50 : decode cX7_makesToken 50 = .ok (.isub, 1) := by decide +kernel
theorem dX7_makesToken_51 : decode cX7_makesToken 51 = .ok (.iconst 2, 1) := by decide +kernel
theorem dX7_makesToken_52 : decode cX7_makesToken 52 = .ok (.iload_n 2, 1) := by decide +kernel
theorem dX7_makesToken_53 : decode cX7_makesToken 53 = .ok (.iconst 3, 1) := by decide +kernel
theorem dX7_makesToken_54 : decode cX7_makesToken 54 = .ok (.if_icmp .ge 7, 3) := by decide +kernel
theorem dX7_makesToken_57 : decode cX7_makesToken 57 = .ok (.iload_n 2, 1) := by decide +kernel
theorem dX7_makesToken_58 : decode cX7_makesToken 58 = .ok (.goto 4, 3) := by decide +kernel
theorem dX7_makesToken_61 : decode cX7_makesToken 61 = .ok (.iconst 3, 1) := by decide +kernel
theorem dX7_makesToken_62 : decode cX7_makesToken 62 = .ok (.invokevirtual 42, 3) := by decide +kernel
theorem dX7_makesToken_65 : decode cX7_makesToken 65 = .ok (.aload_n 0, 1) := by decide +kernel
theorem dX7_makesToken_66 : decode cX7_makesToken 66 = .ok (.invokevirtual 129, 3) := by decide +kernel
theorem dX7_makesToken_69 : decode cX7_makesToken 69 = .ok (.aload_n 0, 1) := by decide +kernel
theorem dX7_makesToken_70 : decode cX7_makesToken 70 = .ok (.iconst 1, 1) := by decide +kernel
theorem dX7_makesToken_71 : decode cX7_makesToken 71 = .ok (.iload_n 1, 1) := by decide +kernel
theorem dX7_makesToken_72 : decode cX7_makesToken 72 = .ok (.isub, 1) := by decide +kernel
theorem dX7_makesToken_73 : decode cX7_makesToken 73 = .ok (.iconst 2, 1) := by decide +kernel
theorem dX7_makesToken_74 : decode cX7_makesToken 74 = .ok (.invokevirtual 123, 3) := by decide +kernel
theorem dX7_makesToken_77 : decode cX7_makesToken 77 = .ok (.ireturn, 1) := by decide +kernel
theorem dX7_makesLost_0 : decode cX7_makesLost 0 = .ok (.aload_n 0, 1) := by decide +kernel
theorem dX7_makesLost_1 : decode cX7_makesLost 1 = .ok (.getfield 7, 3) := by decide +kernel
theorem dX7_makesLost_4 : decode cX7_makesLost 4 = .ok (.bipush 17, 2) := by decide +kernel
theorem dX7_makesLost_6 : decode cX7_makesLost 6 = .ok (.iaload, 1) := by decide +kernel
theorem dX7_makesLost_7 : decode cX7_makesLost 7 = .ok (.istore_n 1, 1) := by decide +kernel
theorem dX7_makesLost_8 : decode cX7_makesLost 8 = .ok (.aload_n 0, 1) := by decide +kernel
theorem dX7_makesLost_9 : decode cX7_makesLost 9 = .ok (.iload_n 1, 1) := by decide +kernel
theorem dX7_makesLost_10 : decode cX7_makesLost 10 = .ok (.iconst 2, 1) := by decide +kernel
theorem dX7_makesLost_11 : decode cX7_makesLost 11 = .ok (.aload_n 0, 1) := by decide +kernel
theorem dX7_makesLost_12 : decode cX7_makesLost 12 = .ok (.iload_n 1, 1) := by decide +kernel
theorem dX7_makesLost_13 : decode cX7_makesLost 13 = .ok (.iconst 2, 1) := by decide +kernel
theorem dX7_makesLost_14 : decode cX7_makesLost 14 = .ok (.invokevirtual 123, 3) := by decide +kernel
theorem dX7_makesLost_17 : decode cX7_makesLost 17 = .ok (.iconst 1, 1) := by decide +kernel
theorem dX7_makesLost_18 : decode cX7_makesLost 18 = .ok (.isub, 1) := by decide +kernel
theorem dX7_makesLost_19 : decode cX7_makesLost 19 = .ok (.invokevirtual 42, 3) := by decide +kernel
theorem dX7_makesLost_22 : decode cX7_makesLost 22 = .ok (.aload_n 0, 1) := by decide +kernel
theorem dX7_makesLost_23 : decode cX7_makesLost 23 = .ok (.iload_n 1, 1) := by decide +kernel
theorem dX7_makesLost_24 : decode cX7_makesLost 24 = .ok (.iconst 4, 1) := by decide +kernel
theorem dX7_makesLost_25 : decode cX7_makesLost 25 = .ok (.aload_n 0, 1) := by decide +kernel
theorem dX7_makesLost_26 : decode cX7_makesLost 26 = .ok (.iload_n 1, 1) := by decide +kernel
theorem dX7_makesLost_27 : decode cX7_makesLost 27 = .ok (.iconst 4, 1) := by decide +kernel
theorem dX7_makesLost_28 : decode cX7_makesLost 28 = .ok (.invokevirtual 123, 3) := by decide +kernel
theorem dX7_makesLost_31 : decode cX7_makesLost 31 = .ok (.iconst 1, 1) := by decide +kernel
theorem dX7_makesLost_32 : decode cX7_makesLost 32 = .ok (.iadd, 1) := by decide +kernel
theorem dX7_makesLost_33 : decode cX7_makesLost 33 = .ok (.invokevirtual 42, 3) := by decide +kernel
theorem dX7_makesLost_36 : decode cX7_makesLost 36 = .ok (.aload_n 0, 1) := by decide +kernel
theorem dX7_makesLost_37 : decode cX7_makesLost 37 = .ok (.invokevirtual 129, 3) := by decide +kernel
theorem dX7_makesLost_40 : decode cX7_makesLost 40 = .ok (.aload_n 0, 1) := by decide +kernel
theorem dX7_makesLost_41 : decode cX7_makesLost 41 = .ok (.iload_n 1, 1) := by decide +kernel
theorem dX7_makesLost_42 : decode cX7_makesLost 42 = .ok (.iconst 2, 1) := by decide +kernel
theorem dX7_makesLost_43 : decode cX7_makesLost 43 = .ok (.invokevirtual 123, 3) := by decide +kernel
theorem dX7_makesLost_46 : decode cX7_makesLost 46 = .ok (.ireturn, 1) := by decide +kernel
theorem dX7_makes_0 : decode cX7_makes 0 = .ok (.iload_n 1, 1) := by decide +kernel
theorem dX7_makes_1 : decode cX7_makes 1 = .ok (.ifCond .ne 11, 3) := by decide +kernel
theorem dX7_makes_4 : decode cX7_makes 4 = .ok (.aload_n 0, 1) := by decide +kernel
theorem dX7_makes_5 : decode cX7_makes 5 = .ok (.invokevirtual 132, 3) := by decide +kernel
theorem dX7_makes_8 : decode cX7_makes 8 = .ok (.pop, 1) := by decide +kernel
theorem dX7_makes_9 : decode cX7_makes 9 = .ok (.goto 22, 3) := by decide +kernel
theorem dX7_makes_12 : decode cX7_makes 12 = .ok (.iload_n 1, 1) := by decide +kernel
theorem dX7_makes_13 : decode cX7_makes 13 = .ok (.iconst 5, 1) := by decide +kernel
theorem dX7_makes_14 : decode cX7_makes 14 = .ok (.if_icmp .ne 11, 3) := by decide +kernel
theorem dX7_makes_17 : decode cX7_makes 17 = .ok (.aload_n 0, 1) := by decide +kernel
theorem dX7_makes_18 : decode cX7_makes 18 = .ok (.invokevirtual 135, 3) := by decide +kernel
theorem dX7_makes_21 : decode cX7_makes 21 = .ok (.pop, 1) := by decide +kernel
theorem dX7_makes_22 : decode cX7_makes 22 = .ok (.goto 9, 3) := by decide +kernel
theorem dX7_makes_25 : decode cX7_makes 25 = .ok (.aload_n 0, 1) := by decide +kernel
theorem dX7_makes_26 : decode cX7_makes 26 = .ok (.iload_n 1, 1) := by decide +kernel
theorem dX7_makes_27 : decode cX7_makes 27 = .ok (.invokevirtual 138, 3) := by decide +kernel
theorem dX7_makes_30 : decode cX7_makes 30 = .ok (.pop, 1) := by decide +kernel
theorem dX7_makes_31 : decode cX7_makes 31 = .ok (.iload_n 1, 1) := by decide +kernel
theorem dX7_makes_32 : decode cX7_makes 32 = .ok (.ireturn, 1) := by decide +kernel
theorem dX7_refuses_0 : decode cX7_refuses 0 = .ok (.aload_n 0, 1) := by decide +kernel
theorem dX7_refuses_1 : decode cX7_refuses 1 = .ok (.invokevirtual 116, 3) := by decide +kernel
theorem dX7_refuses_4 : decode cX7_refuses 4 = .ok (.ifCond .eq 5, 3) := by decide +kernel
theorem dX7_refuses_7 : decode cX7_refuses 7 = .ok (.iconst 1, 1) := by decide +kernel
theorem dX7_refuses_8 : decode cX7_refuses 8 = .ok (.ireturn, 1) := by decide +kernel
theorem dX7_refuses_9 : decode cX7_refuses 9 = .ok (.aload_n 0, 1) := by decide +kernel
theorem dX7_refuses_10 : decode cX7_refuses 10 = .ok (.aload_n 0, 1) := by decide +kernel
theorem dX7_refuses_11 : decode cX7_refuses 11 = .ok (.getfield 7, 3) := by decide +kernel
theorem dX7_refuses_14 : decode cX7_refuses 14 = .ok (.bipush 17, 2) := by decide +kernel
theorem dX7_refuses_16 : decode cX7_refuses 16 = .ok (.iaload, 1) := by decide +kernel
theorem dX7_refuses_17 : decode cX7_refuses 17 = .ok (.iconst 2, 1) := by decide +kernel
theorem dX7_refuses_18 : decode cX7_refuses 18 = .ok (.invokevirtual 123, 3) := by decide +kernel
theorem dX7_refuses_21 : decode cX7_refuses 21 = .ok (.ifCond .le 7, 3) := by decide +kernel
theorem dX7_refuses_24 : decode cX7_refuses 24 = .ok (.iconst 1, 1) := by decide +kernel
theorem dX7_refuses_25 : decode cX7_refuses 25 = .ok (.goto 4, 3) := by decide +kernel
theorem dX7_refuses_28 : decode cX7_refuses 28 = .ok (.iconst 0, 1) := by decide +kernel
theorem dX7_refuses_29 : decode cX7_refuses 29 = .ok (.istore_n 2, 1) := by decide +kernel
theorem dX7_refuses_30 : decode cX7_refuses 30 = .ok (.iload_n 2, 1) := by decide +kernel
theorem dX7_refuses_31 : decode cX7_refuses 31 = .ok (.iload_n 1, 1) := by decide +kernel
theorem dX7_refuses_32 : decode cX7_refuses 32 = .ok (.ifCond .ne 7, 3) := by decide +kernel
theorem dX7_refuses_35 : decode cX7_refuses 35 = .ok (.iconst 1, 1) := by decide +kernel
theorem dX7_refuses_36 : decode cX7_refuses 36 = .ok (.goto 4, 3) := by decide +kernel
theorem dX7_refuses_39 : decode cX7_refuses 39 = .ok (.iconst 0, 1) := by decide +kernel
theorem dX7_refuses_40 : decode cX7_refuses 40 = .ok (.if_icmp .eq 13, 3) := by decide +kernel
theorem dX7_refuses_43 : decode cX7_refuses 43 = .ok (.iload_n 2, 1) := by decide +kernel
theorem dX7_refuses_44 : decode cX7_refuses 44 = .ok (.ifCond .eq 7, 3) := by decide +kernel
theorem dX7_refuses_47 : decode cX7_refuses 47 = .ok (.iconst 2, 1) := by decide +kernel
theorem dX7_refuses_48 : decode cX7_refuses 48 = .ok (.goto 4, 3) := by decide +kernel
theorem dX7_refuses_51 : decode cX7_refuses 51 = .ok (.iconst 3, 1) := by decide +kernel
theorem dX7_refuses_52 : decode cX7_refuses 52 = .ok (.ireturn, 1) := by decide +kernel
theorem dX7_refuses_53 : decode cX7_refuses 53 = .ok (.iload_n 1, 1) := by decide +kernel
theorem dX7_refuses_54 : decode cX7_refuses 54 = .ok (.iconst 5, 1) := by decide +kernel
theorem dX7_refuses_55 : decode cX7_refuses 55 = .ok (.if_icmp .ne 24, 3) := by decide +kernel
theorem dX7_refuses_58 : decode cX7_refuses 58 = .ok (.aload_n 0, 1) := by decide +kernel
theorem dX7_refuses_59 : decode cX7_refuses 59 = .ok (.aload_n 0, 1) := by decide +kernel
theorem dX7_refuses_60 : decode cX7_refuses 60 = .ok (.getfield 7, 3) := by decide +kernel
theorem dX7_refuses_63 : decode cX7_refuses 63 = .ok (.bipush 17, 2) := by decide +kernel
theorem dX7_refuses_65 : decode cX7_refuses 65 = .ok (.iaload, 1) := by decide +kernel
theorem dX7_refuses_66 : decode cX7_refuses 66 = .ok (.iconst 1, 1) := by decide +kernel
theorem dX7_refuses_67 : decode cX7_refuses 67 = .ok (.invokevirtual 123, 3) := by decide +kernel
theorem dX7_refuses_70 : decode cX7_refuses 70 = .ok (.ifCond .ne 7, 3) := by decide +kernel
theorem dX7_refuses_73 : decode cX7_refuses 73 = .ok (.iconst 5, 1) := by decide +kernel
theorem dX7_refuses_74 : decode cX7_refuses 74 = .ok (.goto 4, 3) := by decide +kernel
theorem dX7_refuses_77 : decode cX7_refuses 77 = .ok (.iconst 0, 1) := by decide +kernel
theorem dX7_refuses_78 : decode cX7_refuses 78 = .ok (.ireturn, 1) := by decide +kernel
theorem dX7_refuses_79 : decode cX7_refuses 79 = .ok (.iload_n 1, 1) := by decide +kernel
theorem dX7_refuses_80 : decode cX7_refuses 80 = .ok (.aload_n 0, 1) := by decide +kernel
theorem dX7_refuses_81 : decode cX7_refuses 81 = .ok (.getfield 7, 3) := by decide +kernel
theorem dX7_refuses_84 : decode cX7_refuses 84 = .ok (.iconst 0, 1) := by decide +kernel
theorem dX7_refuses_85 : decode cX7_refuses 85 = .ok (.iaload, 1) := by decide +kernel
theorem dX7_refuses_86 : decode cX7_refuses 86 = .ok (.if_icmp .le 7, 3) := by decide +kernel
theorem dX7_refuses_89 : decode cX7_refuses 89 = .ok (.iconst 4, 1) := by decide +kernel
theorem dX7_refuses_90 : decode cX7_refuses 90 = .ok (.goto 4, 3) := by decide +kernel
theorem dX7_refuses_93 : decode cX7_refuses 93 = .ok (.iconst 0, 1) := by decide +kernel
theorem dX7_refuses_94 : decode cX7_refuses 94 = .ok (.ireturn, 1) := by decide +kernel
theorem dX7_drive_0 : decode cX7_drive 0 = .ok (.aload_n 0, 1) := by decide +kernel
theorem dX7_drive_1 : decode cX7_drive 1 = .ok (.iconst 0, 1) := by decide +kernel
theorem dX7_drive_2 : decode cX7_drive 2 = .ok (.putfield 29, 3) := by decide +kernel
theorem dX7_drive_5 : decode cX7_drive 5 = .ok (.iload_n 1, 1) := by decide +kernel
theorem dX7_drive_6 : decode cX7_drive 6 = .ok (.iconst 1, 1) := by decide +kernel
theorem dX7_drive_7 : decode cX7_drive 7 = .ok (.iconst 4, 1) := by decide +kernel
theorem dX7_drive_8 : decode cX7_drive 8 = .ok (.invokestatic 49, 3) := by decide +kernel
theorem dX7_drive_11 : decode cX7_drive 11 = .ok (.ifCond .ne 5, 3) := by decide +kernel
theorem dX7_drive_14 : decode cX7_drive 14 = .ok (.iconst (-1), 1) := by decide +kernel
theorem dX7_drive_15 : decode cX7_drive 15 = .ok (.ireturn, 1) := by decide +kernel
theorem dX7_drive_16 : decode cX7_drive 16 = .ok (.aload_n 0, 1) := by decide +kernel
theorem dX7_drive_17 : decode cX7_drive 17 = .ok (.iload_n 1, 1) := by decide +kernel
theorem dX7_drive_18 : decode cX7_drive 18 = .ok (.invokevirtual 141, 3) := by decide +kernel
theorem dX7_drive_21 : decode cX7_drive 21 = .ok (.ifCond .eq 6, 3) := by decide +kernel
theorem dX7_drive_24 : decode cX7_drive 24 = .ok (.bipush (-2), 2) := by decide +kernel
theorem dX7_drive_26 : decode cX7_drive 26 = .ok (.ireturn, 1) := by decide +kernel
theorem dX7_drive_27 : decode cX7_drive 27 = .ok (.aload_n 0, 1) := by decide +kernel
theorem dX7_drive_28 : decode cX7_drive 28 = .ok (.invokevirtual 144, 3) := by decide +kernel
theorem dX7_drive_31 : decode cX7_drive 31 = .ok (.aload_n 0, 1) := by decide +kernel
theorem dX7_drive_32 : decode cX7_drive 32 = .ok (.iload_n 1, 1) := by decide +kernel
theorem dX7_drive_33 : decode cX7_drive 33 = .ok (.invokevirtual 138, 3) := by decide +kernel
theorem dX7_drive_36 : decode cX7_drive 36 = .ok (.ireturn, 1) := by decide +kernel
theorem dX7_token_0 : decode cX7_token 0 = .ok (.aload_n 0, 1) := by decide +kernel
theorem dX7_token_1 : decode cX7_token 1 = .ok (.iconst 0, 1) := by decide +kernel
theorem dX7_token_2 : decode cX7_token 2 = .ok (.putfield 29, 3) := by decide +kernel
theorem dX7_token_5 : decode cX7_token 5 = .ok (.aload_n 0, 1) := by decide +kernel
theorem dX7_token_6 : decode cX7_token 6 = .ok (.iconst 5, 1) := by decide +kernel
theorem dX7_token_7 : decode cX7_token 7 = .ok (.invokevirtual 141, 3) := by decide +kernel
theorem dX7_token_10 : decode cX7_token 10 = .ok (.ifCond .eq 6, 3) := by decide +kernel
theorem dX7_token_13 : decode cX7_token 13 = .ok (.bipush (-2), 2) := by decide +kernel
theorem dX7_token_15 : decode cX7_token 15 = .ok (.ireturn, 1) := by decide +kernel
theorem dX7_token_16 : decode cX7_token 16 = .ok (.aload_n 0, 1) := by decide +kernel
theorem dX7_token_17 : decode cX7_token 17 = .ok (.invokevirtual 144, 3) := by decide +kernel
theorem dX7_token_20 : decode cX7_token 20 = .ok (.aload_n 0, 1) := by decide +kernel
theorem dX7_token_21 : decode cX7_token 21 = .ok (.invokevirtual 135, 3) := by decide +kernel
theorem dX7_token_24 : decode cX7_token 24 = .ok (.ireturn, 1) := by decide +kernel
theorem dX7_lose_0 : decode cX7_lose 0 = .ok (.aload_n 0, 1) := by decide +kernel
theorem dX7_lose_1 : decode cX7_lose 1 = .ok (.iconst 0, 1) := by decide +kernel
theorem dX7_lose_2 : decode cX7_lose 2 = .ok (.putfield 29, 3) := by decide +kernel
theorem dX7_lose_5 : decode cX7_lose 5 = .ok (.aload_n 0, 1) := by decide +kernel
theorem dX7_lose_6 : decode cX7_lose 6 = .ok (.iconst 0, 1) := by decide +kernel
theorem dX7_lose_7 : decode cX7_lose 7 = .ok (.invokevirtual 141, 3) := by decide +kernel
theorem dX7_lose_10 : decode cX7_lose 10 = .ok (.ifCond .eq 6, 3) := by decide +kernel
theorem dX7_lose_13 : decode cX7_lose 13 = .ok (.bipush (-2), 2) := by decide +kernel
theorem dX7_lose_15 : decode cX7_lose 15 = .ok (.ireturn, 1) := by decide +kernel
theorem dX7_lose_16 : decode cX7_lose 16 = .ok (.aload_n 0, 1) := by decide +kernel
theorem dX7_lose_17 : decode cX7_lose 17 = .ok (.invokevirtual 144, 3) := by decide +kernel
theorem dX7_lose_20 : decode cX7_lose 20 = .ok (.aload_n 0, 1) := by decide +kernel
theorem dX7_lose_21 : decode cX7_lose 21 = .ok (.invokevirtual 132, 3) := by decide +kernel
theorem dX7_lose_24 : decode cX7_lose 24 = .ok (.ireturn, 1) := by decide +kernel
theorem dX7_best_0 : decode cX7_best 0 = .ok (.aload_n 0, 1) := by decide +kernel
theorem dX7_best_1 : decode cX7_best 1 = .ok (.iconst 0, 1) := by decide +kernel
theorem dX7_best_2 : decode cX7_best 2 = .ok (.putfield 29, 3) := by decide +kernel
theorem dX7_best_5 : decode cX7_best 5 = .ok (.aload_n 0, 1) := by decide +kernel
theorem dX7_best_6 : decode cX7_best 6 = .ok (.invokevirtual 116, 3) := by decide +kernel
theorem dX7_best_9 : decode cX7_best 9 = .ok (.ifCond .eq 6, 3) := by decide +kernel
theorem dX7_best_12 : decode cX7_best 12 = .ok (.bipush (-2), 2) := by decide +kernel
theorem dX7_best_14 : decode cX7_best 14 = .ok (.ireturn, 1) := by decide +kernel
theorem dX7_best_15 : decode cX7_best 15 = .ok (.aload_n 0, 1) := by decide +kernel
theorem dX7_best_16 : decode cX7_best 16 = .ok (.invokevirtual 144, 3) := by decide +kernel
theorem dX7_best_19 : decode cX7_best 19 = .ok (.aload_n 0, 1) := by decide +kernel
theorem dX7_best_20 : decode cX7_best 20 = .ok (.aload_n 0, 1) := by decide +kernel
theorem dX7_best_21 : decode cX7_best 21 = .ok (.invokevirtual 147, 3) := by decide +kernel
theorem dX7_best_24 : decode cX7_best 24 = .ok (.invokevirtual 150, 3) := by decide +kernel
theorem dX7_best_27 : decode cX7_best 27 = .ok (.ireturn, 1) := by decide +kernel
theorem dX7_greedy_0 : decode cX7_greedy 0 = .ok (.aload_n 0, 1) := by decide +kernel
theorem dX7_greedy_1 : decode cX7_greedy 1 = .ok (.iconst 0, 1) := by decide +kernel
theorem dX7_greedy_2 : decode cX7_greedy 2 = .ok (.putfield 29, 3) := by decide +kernel
theorem dX7_greedy_5 : decode cX7_greedy 5 = .ok (.aload_n 0, 1) := by decide +kernel
theorem dX7_greedy_6 : decode cX7_greedy 6 = .ok (.invokevirtual 116, 3) := by decide +kernel
theorem dX7_greedy_9 : decode cX7_greedy 9 = .ok (.ifCond .eq 6, 3) := by decide +kernel
theorem dX7_greedy_12 : decode cX7_greedy 12 = .ok (.bipush (-2), 2) := by decide +kernel
theorem dX7_greedy_14 : decode cX7_greedy 14 = .ok (.ireturn, 1) := by decide +kernel
theorem dX7_greedy_15 : decode cX7_greedy 15 = .ok (.aload_n 0, 1) := by decide +kernel
theorem dX7_greedy_16 : decode cX7_greedy 16 = .ok (.invokevirtual 144, 3) := by decide +kernel
theorem dX7_greedy_19 : decode cX7_greedy 19 = .ok (.aload_n 0, 1) := by decide +kernel
theorem dX7_greedy_20 : decode cX7_greedy 20 = .ok (.aload_n 0, 1) := by decide +kernel
theorem dX7_greedy_21 : decode cX7_greedy 21 = .ok (.invokevirtual 153, 3) := by decide +kernel
theorem dX7_greedy_24 : decode cX7_greedy 24 = .ok (.invokevirtual 150, 3) := by decide +kernel
theorem dX7_greedy_27 : decode cX7_greedy 27 = .ok (.ireturn, 1) := by decide +kernel
theorem dX7_again_0 : decode cX7_again 0 = .ok (.aload_n 0, 1) := by decide +kernel
theorem dX7_again_1 : decode cX7_again 1 = .ok (.iconst 0, 1) := by decide +kernel
theorem dX7_again_2 : decode cX7_again 2 = .ok (.putfield 29, 3) := by decide +kernel
theorem dX7_again_5 : decode cX7_again 5 = .ok (.aload_n 0, 1) := by decide +kernel
theorem dX7_again_6 : decode cX7_again 6 = .ok (.invokevirtual 144, 3) := by decide +kernel
theorem dX7_again_9 : decode cX7_again 9 = .ok (.aload_n 0, 1) := by decide +kernel
theorem dX7_again_10 : decode cX7_again 10 = .ok (.invokevirtual 39, 3) := by decide +kernel
theorem dX7_again_13 : decode cX7_again 13 = .ok (.aload_n 0, 1) := by decide +kernel
theorem dX7_again_14 : decode cX7_again 14 = .ok (.getfield 7, 3) := by decide +kernel
theorem dX7_again_17 : decode cX7_again 17 = .ok (.iconst 2, 1) := by decide +kernel
theorem dX7_again_18 : decode cX7_again 18 = .ok (.iaload, 1) := by decide +kernel
theorem dX7_again_19 : decode cX7_again 19 = .ok (.ireturn, 1) := by decide +kernel
theorem dX7_set_0 : decode cX7_set 0 = .ok (.aload_n 0, 1) := by decide +kernel
theorem dX7_set_1 : decode cX7_set 1 = .ok (.iconst 0, 1) := by decide +kernel
theorem dX7_set_2 : decode cX7_set 2 = .ok (.putfield 29, 3) := by decide +kernel
theorem dX7_set_5 : decode cX7_set 5 = .ok (.iload_n 1, 1) := by decide +kernel
theorem dX7_set_6 : decode cX7_set 6 = .ok (.iconst 0, 1) := by decide +kernel
theorem dX7_set_7 : decode cX7_set 7 = .ok (.iconst 1, 1) := by decide +kernel
theorem dX7_set_8 : decode cX7_set 8 = .ok (.invokestatic 49, 3) := by decide +kernel
theorem dX7_set_11 : decode cX7_set 11 = .ok (.ifCond .eq 20, 3) := by decide +kernel
theorem dX7_set_14 : decode cX7_set 14 = .ok (.iload_n 2, 1) := by decide +kernel
theorem dX7_set_15 : decode cX7_set 15 = .ok (.iconst 1, 1) := by decide +kernel
theorem dX7_set_16 : decode cX7_set 16 = .ok (.iload_n 1, 1) := by decide +kernel
theorem dX7_set_17 : decode cX7_set 17 = .ok (.ifCond .ne 7, 3) := by decide +kernel
theorem dX7_set_20 : decode cX7_set 20 = .ok (.iconst 4, 1) := by decide +kernel
theorem dX7_set_21 : decode cX7_set 21 = .ok (.goto 4, 3) := by decide +kernel
theorem dX7_set_24 : decode cX7_set 24 = .ok (.iconst 3, 1) := by decide +kernel
theorem dX7_set_25 : decode cX7_set 25 = .ok (.invokestatic 49, 3) := by decide +kernel
theorem dX7_set_28 : decode cX7_set 28 = .ok (.ifCond .ne 5, 3) := by decide +kernel
theorem dX7_set_31 : decode cX7_set 31 = .ok (.iconst (-1), 1) := by decide +kernel
theorem dX7_set_32 : decode cX7_set 32 = .ok (.ireturn, 1) := by decide +kernel
theorem dX7_set_33 : decode cX7_set 33 = .ok (.aload_n 0, 1) := by decide +kernel
theorem dX7_set_34 : decode cX7_set 34 = .ok (.invokevirtual 144, 3) := by decide +kernel
theorem dX7_set_37 : decode cX7_set 37 = .ok (.aload_n 0, 1) := by decide +kernel
theorem dX7_set_38 : decode cX7_set 38 = .ok (.getfield 7, 3) := by decide +kernel
theorem dX7_set_41 : decode cX7_set 41 = .ok (.iload_n 1, 1) := by decide +kernel
theorem dX7_set_42 : decode cX7_set 42 = .ok (.iaload, 1) := by decide +kernel
theorem dX7_set_43 : decode cX7_set 43 = .ok (.istore_n 3, 1) := by decide +kernel
theorem dX7_set_44 : decode cX7_set 44 = .ok (.aload_n 0, 1) := by decide +kernel
theorem dX7_set_45 : decode cX7_set 45 = .ok (.getfield 7, 3) := by decide +kernel
theorem dX7_set_48 : decode cX7_set 48 = .ok (.iload_n 1, 1) := by decide +kernel
theorem dX7_set_49 : decode cX7_set 49 = .ok (.iload_n 2, 1) := by decide +kernel
theorem dX7_set_50 : decode cX7_set 50 = .ok (.iastore, 1) := by decide +kernel
theorem dX7_set_51 : decode cX7_set 51 = .ok (.aload_n 0, 1) := by decide +kernel
theorem dX7_set_52 : decode cX7_set 52 = .ok (.iconst 0, 1) := by decide +kernel
theorem dX7_set_53 : decode cX7_set 53 = .ok (.putfield 109, 3) := by decide +kernel
theorem dX7_set_56 : decode cX7_set 56 = .ok (.iload_n 3, 1) := by decide +kernel
theorem dX7_set_57 : decode cX7_set 57 = .ok (.ireturn, 1) := by decide +kernel
theorem dX7_append_0 : decode cX7_append 0 = .ok (.aload_n 0, 1) := by decide +kernel
theorem dX7_append_1 : decode cX7_append 1 = .ok (.iconst 0, 1) := by decide +kernel
theorem dX7_append_2 : decode cX7_append 2 = .ok (.putfield 29, 3) := by decide +kernel
theorem dX7_append_5 : decode cX7_append 5 = .ok (.iload_n 1, 1) := by decide +kernel
theorem dX7_append_6 : decode cX7_append 6 = .ok (.bipush 33, 2) := by decide +kernel
theorem dX7_append_8 : decode cX7_append 8 = .ok (.bipush 126, 2) := by decide +kernel
theorem dX7_append_10 : decode cX7_append 10 = .ok (.invokestatic 49, 3) := by decide +kernel
theorem dX7_append_13 : decode cX7_append 13 = .ok (.ifCond .ne 5, 3) := by decide +kernel
theorem dX7_append_16 : decode cX7_append 16 = .ok (.iconst (-1), 1) := by decide +kernel
theorem dX7_append_17 : decode cX7_append 17 = .ok (.ireturn, 1) := by decide +kernel
theorem dX7_append_18 : decode cX7_append 18 = .ok (.aload_n 0, 1) := by decide +kernel
theorem dX7_append_19 : decode cX7_append 19 = .ok (.getfield 156, 3) := by decide +kernel
theorem dX7_append_22 : decode cX7_append 22 = .ok (.bipush 60, 2) := by decide +kernel
theorem dX7_append_24 : decode cX7_append 24 = .ok (.if_icmp .ne 6, 3) := by decide +kernel
theorem dX7_append_27 : decode cX7_append 27 = .ok (.bipush (-3), 2) := by decide +kernel
theorem dX7_append_29 : decode cX7_append 29 = .ok (.ireturn, 1) := by decide +kernel
theorem dX7_append_30 : decode cX7_append 30 = .ok (.aload_n 0, 1) := by decide +kernel
theorem dX7_append_31 : decode cX7_append 31 = .ok (.getfield 22, 3) := by decide +kernel
theorem dX7_append_34 : decode cX7_append 34 = .ok (.aload_n 0, 1) := by decide +kernel
theorem dX7_append_35 : decode cX7_append 35 = .ok (.getfield 156, 3) := by decide +kernel
theorem dX7_append_38 : decode cX7_append 38 = .ok (.iload_n 1, 1) := by decide +kernel
theorem dX7_append_39 : decode cX7_append 39 = .ok (.iastore, 1) := by decide +kernel
theorem dX7_append_40 : decode cX7_append 40 = .ok (.aload_n 0, 1) := by decide +kernel
theorem dX7_append_41 : decode cX7_append 41 = .ok (.dup, 1) := by decide +kernel
theorem dX7_append_42 : decode cX7_append 42 = .ok (.getfield 156, 3) := by decide +kernel
theorem dX7_append_45 : decode cX7_append 45 = .ok (.iconst 1, 1) := by decide +kernel
theorem dX7_append_46 : decode cX7_append 46 = .ok (.iadd, 1) := by decide +kernel
theorem dX7_append_47 : decode cX7_append 47 = .ok (.putfield 156, 3) := by decide +kernel
theorem dX7_append_50 : decode cX7_append 50 = .ok (.aload_n 0, 1) := by decide +kernel
theorem dX7_append_51 : decode cX7_append 51 = .ok (.getfield 156, 3) := by decide +kernel
theorem dX7_append_54 : decode cX7_append 54 = .ok (.ireturn, 1) := by decide +kernel
theorem dX7_clear_0 : decode cX7_clear 0 = .ok (.aload_n 0, 1) := by decide +kernel
theorem dX7_clear_1 : decode cX7_clear 1 = .ok (.iconst 0, 1) := by decide +kernel
theorem dX7_clear_2 : decode cX7_clear 2 = .ok (.putfield 29, 3) := by decide +kernel
theorem dX7_clear_5 : decode cX7_clear 5 = .ok (.aload_n 0, 1) := by decide +kernel
theorem dX7_clear_6 : decode cX7_clear 6 = .ok (.getfield 156, 3) := by decide +kernel
theorem dX7_clear_9 : decode cX7_clear 9 = .ok (.istore_n 1, 1) := by decide +kernel
theorem dX7_clear_10 : decode cX7_clear 10 = .ok (.aload_n 0, 1) := by decide +kernel
theorem dX7_clear_11 : decode cX7_clear 11 = .ok (.iconst 0, 1) := by decide +kernel
theorem dX7_clear_12 : decode cX7_clear 12 = .ok (.putfield 156, 3) := by decide +kernel
theorem dX7_clear_15 : decode cX7_clear 15 = .ok (.iload_n 1, 1) := by decide +kernel
theorem dX7_clear_16 : decode cX7_clear 16 = .ok (.ireturn, 1) := by decide +kernel
theorem dX7_kindOf_0 : decode cX7_kindOf 0 = .ok (.iload_n 0, 1) := by decide +kernel
theorem dX7_kindOf_1 : decode cX7_kindOf 1 = .ok (.bipush 46, 2) := by decide +kernel
theorem dX7_kindOf_3 : decode cX7_kindOf 3 = .ok (.if_icmp .ne 7, 3) := by decide +kernel
theorem dX7_kindOf_6 : decode cX7_kindOf 6 = .ok (.iconst 0, 1) := by decide +kernel
theorem dX7_kindOf_7 : decode cX7_kindOf 7 = .ok (.goto 35, 3) := by decide +kernel
theorem dX7_kindOf_10 : decode cX7_kindOf 10 = .ok (.iload_n 0, 1) := by decide +kernel
theorem dX7_kindOf_11 : decode cX7_kindOf 11 = .ok (.bipush 109, 2) := by decide +kernel
theorem dX7_kindOf_13 : decode cX7_kindOf 13 = .ok (.if_icmp .ne 7, 3) := by decide +kernel
theorem dX7_kindOf_16 : decode cX7_kindOf 16 = .ok (.iconst 1, 1) := by decide +kernel
theorem dX7_kindOf_17 : decode cX7_kindOf 17 = .ok (.goto 25, 3) := by decide +kernel
theorem dX7_kindOf_20 : decode cX7_kindOf 20 = .ok (.iload_n 0, 1) := by decide +kernel
theorem dX7_kindOf_21 : decode cX7_kindOf 21 = .ok (.bipush 115, 2) := by decide +kernel
theorem dX7_kindOf_23 : decode cX7_kindOf 23 = .ok (.if_icmp .ne 7, 3) := by decide +kernel
theorem dX7_kindOf_26 : decode cX7_kindOf 26 = .ok (.iconst 2, 1) := by decide +kernel
theorem dX7_kindOf_27 : decode cX7_kindOf 27 = .ok (.goto 15, 3) := by decide +kernel
theorem dX7_kindOf_30 : decode cX7_kindOf 30 = .ok (.iload_n 0, 1) := by decide +kernel
theorem dX7_kindOf_31 : decode cX7_kindOf 31 = .ok (.bipush 105, 2) := by decide +kernel
theorem dX7_kindOf_33 : decode cX7_kindOf 33 = .ok (.if_icmp .ne 7, 3) := by decide +kernel
theorem dX7_kindOf_36 : decode cX7_kindOf 36 = .ok (.iconst 3, 1) := by decide +kernel
theorem dX7_kindOf_37 : decode cX7_kindOf 37 = .ok (.goto 5, 3) := by decide +kernel
theorem dX7_kindOf_40 : decode cX7_kindOf 40 = .ok (.bipush (-4), 2) := by decide +kernel
theorem dX7_kindOf_42 : decode cX7_kindOf 42 = .ok (.ireturn, 1) := by decide +kernel
theorem dX7_isTurn_0 : decode cX7_isTurn 0 = .ok (.iload_n 0, 1) := by decide +kernel
theorem dX7_isTurn_1 : decode cX7_isTurn 1 = .ok (.bipush 49, 2) := by decide +kernel
theorem dX7_isTurn_3 : decode cX7_isTurn 3 = .ok (.bipush 52, 2) := by decide +kernel
theorem dX7_isTurn_5 : decode cX7_isTurn 5 = .ok (.invokestatic 49, 3) := by decide +kernel
theorem dX7_isTurn_8 : decode cX7_isTurn 8 = .ok (.ifCond .ne 27, 3) := by decide +kernel
theorem dX7_isTurn_11 : decode cX7_isTurn 11 = .ok (.iload_n 0, 1) := by decide +kernel
theorem dX7_isTurn_12 : decode cX7_isTurn 12 = .ok (.bipush 116, 2) := by decide +kernel
theorem dX7_isTurn_14 : decode cX7_isTurn 14 = .ok (.if_icmp .eq 21, 3) := by decide +kernel
theorem dX7_isTurn_17 : decode cX7_isTurn 17 = .ok (.iload_n 0, 1) := by decide +kernel
theorem dX7_isTurn_18 : decode cX7_isTurn 18 = .ok (.bipush 98, 2) := by decide +kernel
theorem dX7_isTurn_20 : decode cX7_isTurn 20 = .ok (.if_icmp .eq 15, 3) := by decide +kernel
theorem dX7_isTurn_23 : decode cX7_isTurn 23 = .ok (.iload_n 0, 1) := by decide +kernel
theorem dX7_isTurn_24 : decode cX7_isTurn 24 = .ok (.bipush 103, 2) := by decide +kernel
theorem dX7_isTurn_26 : decode cX7_isTurn 26 = .ok (.if_icmp .eq 9, 3) := by decide +kernel
theorem dX7_isTurn_29 : decode cX7_isTurn 29 = .ok (.iload_n 0, 1) := by decide +kernel
theorem dX7_isTurn_30 : decode cX7_isTurn 30 = .ok (.bipush 45, 2) := by decide +kernel
theorem dX7_isTurn_32 : decode cX7_isTurn 32 = .ok (.if_icmp .ne 7, 3) := by decide +kernel
theorem dX7_isTurn_35 : decode cX7_isTurn 35 = .ok (.iconst 1, 1) := by decide +kernel
theorem dX7_isTurn_36 : decode cX7_isTurn 36 = .ok (.goto 4, 3) := by decide +kernel
theorem dX7_isTurn_39 : decode cX7_isTurn 39 = .ok (.iconst 0, 1) := by decide +kernel
theorem dX7_isTurn_40 : decode cX7_isTurn 40 = .ok (.ireturn, 1) := by decide +kernel
theorem dX7_faultOf_0 : decode cX7_faultOf 0 = .ok (.iconst 0, 1) := by decide +kernel
theorem dX7_faultOf_1 : decode cX7_faultOf 1 = .ok (.istore_n 2, 1) := by decide +kernel
theorem dX7_faultOf_2 : decode cX7_faultOf 2 = .ok (.iconst 1, 1) := by decide +kernel
theorem dX7_faultOf_3 : decode cX7_faultOf 3 = .ok (.istore_n 3, 1) := by decide +kernel
theorem dX7_faultOf_4 : decode cX7_faultOf 4 = .ok (.iload_n 2, 1) := by decide +kernel
theorem dX7_faultOf_5 : decode cX7_faultOf 5 = .ok (.aload_n 0, 1) := by decide +kernel
theorem dX7_faultOf_6 : decode cX7_faultOf 6 = .ok (.getfield 156, 3) := by decide +kernel
theorem dX7_faultOf_9 : decode cX7_faultOf 9 = .ok (.if_icmp .ge 64, 3) := by decide +kernel
theorem dX7_faultOf_12 : decode cX7_faultOf 12 = .ok (.iload_n 3, 1) := by decide +kernel
theorem dX7_faultOf_13 : decode cX7_faultOf 13 = .ok (.ifCond .eq 60, 3) := by decide +kernel
theorem dX7_faultOf_16 : decode cX7_faultOf 16 = .ok (.iload_n 1, 1) := by decide +kernel
theorem dX7_faultOf_17 : decode cX7_faultOf 17 = .ok (.ifCond .ne 31, 3) := by decide +kernel
theorem dX7_faultOf_20 : decode cX7_faultOf 20 = .ok (.iload_n 2, 1) := by decide +kernel
theorem dX7_faultOf_21 : decode cX7_faultOf 21 = .ok (.bipush 14, 2) := by decide +kernel
theorem dX7_faultOf_23 : decode cX7_faultOf 23 = .ok (.if_icmp .ge 21, 3) := by decide +kernel
theorem dX7_faultOf_26 : decode cX7_faultOf 26 = .ok (.aload_n 0, 1) := by decide +kernel
theorem dX7_faultOf_27 : decode cX7_faultOf 27 = .ok (.getfield 22, 3) := by decide +kernel
theorem dX7_faultOf_30 : decode cX7_faultOf 30 = .ok (.iload_n 2, 1) := by decide +kernel
theorem dX7_faultOf_31 : decode cX7_faultOf 31 = .ok (.iaload, 1) := by decide +kernel
theorem dX7_faultOf_32 : decode cX7_faultOf 32 = .ok (.invokestatic 159, 3) := by decide +kernel
theorem dX7_faultOf_35 : decode cX7_faultOf 35 = .ok (.bipush (-4), 2) := by decide +kernel
theorem dX7_faultOf_37 : decode cX7_faultOf 37 = .ok (.if_icmp .eq 7, 3) := by decide +kernel
theorem dX7_faultOf_40 : decode cX7_faultOf 40 = .ok (.iconst 1, 1) := by decide +kernel
theorem dX7_faultOf_41 : decode cX7_faultOf 41 = .ok (.goto 16, 3) := by decide +kernel
theorem dX7_faultOf_44 : decode cX7_faultOf 44 = .ok (.iconst 0, 1) := by decide +kernel
theorem dX7_faultOf_45 : decode cX7_faultOf 45 = .ok (.goto 12, 3) := by decide +kernel
theorem dX7_faultOf_48 : decode cX7_faultOf 48 = .ok (.aload_n 0, 1) := by decide +kernel
theorem dX7_faultOf_49 : decode cX7_faultOf 49 = .ok (.getfield 22, 3) := by decide +kernel
theorem dX7_faultOf_52 : decode cX7_faultOf 52 = .ok (.iload_n 2, 1) := by decide +kernel
theorem dX7_faultOf_53 : decode cX7_faultOf 53 = .ok (.iaload, 1) := by decide +kernel
theorem dX7_faultOf_54 : decode cX7_faultOf 54 = .ok (.invokestatic 162, 3) := by decide +kernel
theorem dX7_faultOf_57 : decode cX7_faultOf 57 = .ok (.istore_n 3, 1) := by decide +kernel
theorem dX7_faultOf_58 : decode cX7_faultOf 58 = .ok (.iload_n 2, 1) := by decide +kernel
theorem dX7_faultOf_59 : decode cX7_faultOf 59 = .ok (.iload_n 3, 1) := by decide +kernel
theorem dX7_faultOf_60 : decode cX7_faultOf 60 = .ok (.ifCond .eq 7, 3) := by decide +kernel
theorem dX7_faultOf_63 : decode cX7_faultOf 63 = .ok (.iconst 1, 1) := by decide +kernel
theorem dX7_faultOf_64 : decode cX7_faultOf 64 = .ok (.goto 4, 3) := by decide +kernel
theorem dX7_faultOf_67 : decode cX7_faultOf 67 = .ok (.iconst 0, 1) := by decide +kernel
theorem dX7_faultOf_68 : decode cX7_faultOf 68 = .ok (.iadd, 1) := by decide +kernel
theorem dX7_faultOf_69 : decode cX7_faultOf 69 = .ok (.istore_n 2, 1) := by decide +kernel
theorem dX7_faultOf_70 : decode cX7_faultOf 70 = .ok (.goto (-66), 3) := by decide +kernel
theorem dX7_faultOf_73 : decode cX7_faultOf 73 = .ok (.iload_n 3, 1) := by decide +kernel
theorem dX7_faultOf_74 : decode cX7_faultOf 74 = .ok (.ifCond .eq 15, 3) := by decide +kernel
theorem dX7_faultOf_77 : decode cX7_faultOf 77 = .ok (.aload_n 0, 1) := by decide +kernel
theorem dX7_faultOf_78 : decode cX7_faultOf 78 = .ok (.getfield 156, 3) := by decide +kernel
theorem dX7_faultOf_81 : decode cX7_faultOf 81 = .ok (.ifCond .le 8, 3) := by decide +kernel
theorem dX7_faultOf_84 : decode cX7_faultOf 84 = .ok (.bipush (-4), 2) := by decide +kernel
theorem dX7_faultOf_86 : decode cX7_faultOf 86 = .ok (.goto 4, 3) := by decide +kernel
theorem dX7_faultOf_89 : decode cX7_faultOf 89 = .ok (.iload_n 2, 1) := by decide +kernel
theorem dX7_faultOf_90 : decode cX7_faultOf 90 = .ok (.ireturn, 1) := by decide +kernel
theorem dX7_fault_0 : decode cX7_fault 0 = .ok (.aload_n 0, 1) := by decide +kernel
theorem dX7_fault_1 : decode cX7_fault 1 = .ok (.iconst 0, 1) := by decide +kernel
theorem dX7_fault_2 : decode cX7_fault 2 = .ok (.putfield 29, 3) := by decide +kernel
theorem dX7_fault_5 : decode cX7_fault 5 = .ok (.iload_n 1, 1) := by decide +kernel
theorem dX7_fault_6 : decode cX7_fault 6 = .ok (.iconst 0, 1) := by decide +kernel
theorem dX7_fault_7 : decode cX7_fault 7 = .ok (.iconst 1, 1) := by decide +kernel
theorem dX7_fault_8 : decode cX7_fault 8 = .ok (.invokestatic 49, 3) := by decide +kernel
theorem dX7_fault_11 : decode cX7_fault 11 = .ok (.ifCond .eq 11, 3) := by decide +kernel
theorem dX7_fault_14 : decode cX7_fault 14 = .ok (.aload_n 0, 1) := by decide +kernel
theorem dX7_fault_15 : decode cX7_fault 15 = .ok (.iload_n 1, 1) := by decide +kernel
theorem dX7_fault_16 : decode cX7_fault 16 = .ok (.invokevirtual 166, 3) := by decide +kernel
theorem dX7_fault_19 : decode cX7_fault 19 = .ok (.goto 4, 3) := by decide +kernel
theorem dX7_fault_22 : decode cX7_fault 22 = .ok (.iconst (-1), 1) := by decide +kernel
theorem dX7_fault_23 : decode cX7_fault 23 = .ok (.ireturn, 1) := by decide +kernel
theorem dX7_road_0 : decode cX7_road 0 = .ok (.aload_n 0, 1) := by decide +kernel
theorem dX7_road_1 : decode cX7_road 1 = .ok (.iconst 0, 1) := by decide +kernel
theorem dX7_road_2 : decode cX7_road 2 = .ok (.putfield 29, 3) := by decide +kernel
theorem dX7_road_5 : decode cX7_road 5 = .ok (.aload_n 0, 1) := by decide +kernel
theorem dX7_road_6 : decode cX7_road 6 = .ok (.iconst 0, 1) := by decide +kernel
theorem dX7_road_7 : decode cX7_road 7 = .ok (.invokevirtual 166, 3) := by decide +kernel
theorem dX7_road_10 : decode cX7_road 10 = .ok (.bipush (-4), 2) := by decide +kernel
theorem dX7_road_12 : decode cX7_road 12 = .ok (.if_icmp .eq 6, 3) := by decide +kernel
theorem dX7_road_15 : decode cX7_road 15 = .ok (.bipush (-2), 2) := by decide +kernel
theorem dX7_road_17 : decode cX7_road 17 = .ok (.ireturn, 1) := by decide +kernel
theorem dX7_road_18 : decode cX7_road 18 = .ok (.aload_n 0, 1) := by decide +kernel
theorem dX7_road_19 : decode cX7_road 19 = .ok (.invokevirtual 144, 3) := by decide +kernel
theorem dX7_road_22 : decode cX7_road 22 = .ok (.aload_n 0, 1) := by decide +kernel
theorem dX7_road_23 : decode cX7_road 23 = .ok (.getfield 7, 3) := by decide +kernel
theorem dX7_road_26 : decode cX7_road 26 = .ok (.iconst 2, 1) := by decide +kernel
theorem dX7_road_27 : decode cX7_road 27 = .ok (.aload_n 0, 1) := by decide +kernel
theorem dX7_road_28 : decode cX7_road 28 = .ok (.getfield 156, 3) := by decide +kernel
theorem dX7_road_31 : decode cX7_road 31 = .ok (.iastore, 1) := by decide +kernel
theorem dX7_road_32 : decode cX7_road 32 = .ok (.iconst 0, 1) := by decide +kernel
theorem dX7_road_33 : decode cX7_road 33 = .ok (.istore_n 1, 1) := by decide +kernel
theorem dX7_road_34 : decode cX7_road 34 = .ok (.iload_n 1, 1) := by decide +kernel
theorem dX7_road_35 : decode cX7_road 35 = .ok (.bipush 14, 2) := by decide +kernel
theorem dX7_road_37 : decode cX7_road 37 = .ok (.if_icmp .ge 38, 3) := by decide +kernel
theorem dX7_road_40 : decode cX7_road 40 = .ok (.aload_n 0, 1) := by decide +kernel
theorem dX7_road_41 : decode cX7_road 41 = .ok (.getfield 7, 3) := by decide +kernel
theorem dX7_road_44 : decode cX7_road 44 = .ok (.iconst 3, 1) := by decide +kernel
theorem dX7_road_45 : decode cX7_road 45 = .ok (.iload_n 1, 1) := by decide +kernel
theorem dX7_road_46 : decode cX7_road 46 = .ok (.iadd, 1) := by decide +kernel
theorem dX7_road_47 : decode cX7_road 47 = .ok (.iload_n 1, 1) := by decide +kernel
theorem dX7_road_48 : decode cX7_road 48 = .ok (.aload_n 0, 1) := by decide +kernel
theorem dX7_road_49 : decode cX7_road 49 = .ok (.getfield 156, 3) := by decide +kernel
theorem dX7_road_52 : decode cX7_road 52 = .ok (.if_icmp .ge 15, 3) := by decide +kernel
theorem dX7_road_55 : decode cX7_road 55 = .ok (.aload_n 0, 1) := by decide +kernel
theorem dX7_road_56 : decode cX7_road 56 = .ok (.getfield 22, 3) := by decide +kernel
theorem dX7_road_59 : decode cX7_road 59 = .ok (.iload_n 1, 1) := by decide +kernel
theorem dX7_road_60 : decode cX7_road 60 = .ok (.iaload, 1) := by decide +kernel
theorem dX7_road_61 : decode cX7_road 61 = .ok (.invokestatic 159, 3) := by decide +kernel
theorem dX7_road_64 : decode cX7_road 64 = .ok (.goto 4, 3) := by decide +kernel
theorem dX7_road_67 : decode cX7_road 67 = .ok (.iconst 0, 1) := by decide +kernel
theorem dX7_road_68 : decode cX7_road 68 = .ok (.iastore, 1) := by decide +kernel
theorem dX7_road_69 : decode cX7_road 69 = .ok (.iinc 1 1, 3) := by decide +kernel
theorem dX7_road_72 : decode cX7_road 72 = .ok (.goto (-38), 3) := by decide +kernel
theorem dX7_road_75 : decode cX7_road 75 = .ok (.aload_n 0, 1) := by decide +kernel
theorem dX7_road_76 : decode cX7_road 76 = .ok (.iconst 0, 1) := by decide +kernel
theorem dX7_road_77 : decode cX7_road 77 = .ok (.putfield 156, 3) := by decide +kernel
theorem dX7_road_80 : decode cX7_road 80 = .ok (.aload_n 0, 1) := by decide +kernel
theorem dX7_road_81 : decode cX7_road 81 = .ok (.iconst 0, 1) := by decide +kernel
theorem dX7_road_82 : decode cX7_road 82 = .ok (.putfield 109, 3) := by decide +kernel
theorem dX7_road_85 : decode cX7_road 85 = .ok (.aload_n 0, 1) := by decide +kernel
theorem dX7_road_86 : decode cX7_road 86 = .ok (.invokevirtual 39, 3) := by decide +kernel
theorem dX7_road_89 : decode cX7_road 89 = .ok (.aload_n 0, 1) := by decide +kernel
theorem dX7_road_90 : decode cX7_road 90 = .ok (.getfield 7, 3) := by decide +kernel
theorem dX7_road_93 : decode cX7_road 93 = .ok (.iconst 2, 1) := by decide +kernel
theorem dX7_road_94 : decode cX7_road 94 = .ok (.iaload, 1) := by decide +kernel
theorem dX7_road_95 : decode cX7_road 95 = .ok (.ireturn, 1) := by decide +kernel
theorem dX7_turnOf_0 : decode cX7_turnOf 0 = .ok (.iload_n 1, 1) := by decide +kernel
theorem dX7_turnOf_1 : decode cX7_turnOf 1 = .ok (.lookupswitch 79 #[(45, 45), (98, 47), (103, 63), (116, 43)], 43) := by decide +kernel
theorem dX7_turnOf_44 : decode cX7_turnOf 44 = .ok (.iconst 5, 1) := by decide +kernel
theorem dX7_turnOf_45 : decode cX7_turnOf 45 = .ok (.ireturn, 1) := by decide +kernel
theorem dX7_turnOf_46 : decode cX7_turnOf 46 = .ok (.iconst 0, 1) := by decide +kernel
theorem dX7_turnOf_47 : decode cX7_turnOf 47 = .ok (.ireturn, 1) := by decide +kernel
theorem dX7_turnOf_48 : decode cX7_turnOf 48 = .ok (.aload_n 0, 1) := by decide +kernel
theorem dX7_turnOf_49 : decode cX7_turnOf 49 = .ok (.invokevirtual 116, 3) := by decide +kernel
theorem dX7_turnOf_52 : decode cX7_turnOf 52 = .ok (.ifCond .eq 7, 3) := by decide +kernel
theorem dX7_turnOf_55 : decode cX7_turnOf 55 = .ok (.iconst 0, 1) := by decide +kernel
theorem dX7_turnOf_56 : decode cX7_turnOf 56 = .ok (.goto 7, 3) := by decide +kernel
theorem dX7_turnOf_59 : decode cX7_turnOf 59 = .ok (.aload_n 0, 1) := by decide +kernel
theorem dX7_turnOf_60 : decode cX7_turnOf 60 = .ok (.invokevirtual 147, 3) := by decide +kernel
theorem dX7_turnOf_63 : decode cX7_turnOf 63 = .ok (.ireturn, 1) := by decide +kernel
theorem dX7_turnOf_64 : decode cX7_turnOf 64 = .ok (.aload_n 0, 1) := by decide +kernel
theorem dX7_turnOf_65 : decode cX7_turnOf 65 = .ok (.invokevirtual 116, 3) := by decide +kernel
theorem dX7_turnOf_68 : decode cX7_turnOf 68 = .ok (.ifCond .eq 7, 3) := by decide +kernel
theorem dX7_turnOf_71 : decode cX7_turnOf 71 = .ok (.iconst 0, 1) := by decide +kernel
theorem dX7_turnOf_72 : decode cX7_turnOf 72 = .ok (.goto 7, 3) := by decide +kernel
theorem dX7_turnOf_75 : decode cX7_turnOf 75 = .ok (.aload_n 0, 1) := by decide +kernel
theorem dX7_turnOf_76 : decode cX7_turnOf 76 = .ok (.invokevirtual 153, 3) := by decide +kernel
theorem dX7_turnOf_79 : decode cX7_turnOf 79 = .ok (.ireturn, 1) := by decide +kernel
theorem dX7_turnOf_80 : decode cX7_turnOf 80 = .ok (.iload_n 1, 1) := by decide +kernel
theorem dX7_turnOf_81 : decode cX7_turnOf 81 = .ok (.bipush 48, 2) := by decide +kernel
theorem dX7_turnOf_83 : decode cX7_turnOf 83 = .ok (.isub, 1) := by decide +kernel
theorem dX7_turnOf_84 : decode cX7_turnOf 84 = .ok (.ireturn, 1) := by decide +kernel
theorem dX7_race_0 : decode cX7_race 0 = .ok (.aload_n 0, 1) := by decide +kernel
theorem dX7_race_1 : decode cX7_race 1 = .ok (.iconst 0, 1) := by decide +kernel
theorem dX7_race_2 : decode cX7_race 2 = .ok (.putfield 29, 3) := by decide +kernel
theorem dX7_race_5 : decode cX7_race 5 = .ok (.aload_n 0, 1) := by decide +kernel
theorem dX7_race_6 : decode cX7_race 6 = .ok (.iconst 1, 1) := by decide +kernel
theorem dX7_race_7 : decode cX7_race 7 = .ok (.invokevirtual 166, 3) := by decide +kernel
theorem dX7_race_10 : decode cX7_race 10 = .ok (.bipush (-4), 2) := by decide +kernel
theorem dX7_race_12 : decode cX7_race 12 = .ok (.if_icmp .eq 6, 3) := by decide +kernel
theorem dX7_race_15 : decode cX7_race 15 = .ok (.bipush (-2), 2) := by decide +kernel
theorem dX7_race_17 : decode cX7_race 17 = .ok (.ireturn, 1) := by decide +kernel
theorem dX7_race_18 : decode cX7_race 18 = .ok (.aload_n 0, 1) := by decide +kernel
theorem dX7_race_19 : decode cX7_race 19 = .ok (.invokevirtual 144, 3) := by decide +kernel
theorem dX7_race_22 : decode cX7_race 22 = .ok (.iconst 0, 1) := by decide +kernel
theorem dX7_race_23 : decode cX7_race 23 = .ok (.istore_n 1, 1) := by decide +kernel
theorem dX7_race_24 : decode cX7_race 24 = .ok (.iconst 0, 1) := by decide +kernel
theorem dX7_race_25 : decode cX7_race 25 = .ok (.istore_n 2, 1) := by decide +kernel
theorem dX7_race_26 : decode cX7_race 26 = .ok (.iload_n 1, 1) := by decide +kernel
theorem dX7_race_27 : decode cX7_race 27 = .ok (.aload_n 0, 1) := by decide +kernel
theorem dX7_race_28 : decode cX7_race 28 = .ok (.getfield 156, 3) := by decide +kernel
theorem dX7_race_31 : decode cX7_race 31 = .ok (.if_icmp .ge 40, 3) := by decide +kernel
theorem dX7_race_34 : decode cX7_race 34 = .ok (.iload_n 2, 1) := by decide +kernel
theorem dX7_race_35 : decode cX7_race 35 = .ok (.ifCond .ne 36, 3) := by decide +kernel
theorem dX7_race_38 : decode cX7_race 38 = .ok (.aload_n 0, 1) := by decide +kernel
theorem dX7_race_39 : decode cX7_race 39 = .ok (.aload_n 0, 1) := by decide +kernel
theorem dX7_race_40 : decode cX7_race 40 = .ok (.getfield 22, 3) := by decide +kernel
theorem dX7_race_43 : decode cX7_race 43 = .ok (.iload_n 1, 1) := by decide +kernel
theorem dX7_race_44 : decode cX7_race 44 = .ok (.iaload, 1) := by decide +kernel
theorem dX7_race_45 : decode cX7_race 45 = .ok (.invokevirtual 169, 3) := by decide +kernel
theorem dX7_race_48 : decode cX7_race 48 = .ok (.istore_n 3, 1) := by decide +kernel
theorem dX7_race_49 : decode cX7_race 49 = .ok (.aload_n 0, 1) := by decide +kernel
theorem dX7_race_50 : decode cX7_race 50 = .ok (.iload_n 3, 1) := by decide +kernel
theorem dX7_race_51 : decode cX7_race 51 = .ok (.invokevirtual 141, 3) := by decide +kernel
theorem dX7_race_54 : decode cX7_race 54 = .ok (.istore_n 2, 1) := by decide +kernel
theorem dX7_race_55 : decode cX7_race 55 = .ok (.iload_n 2, 1) := by decide +kernel
theorem dX7_race_56 : decode cX7_race 56 = .ok (.ifCond .ne 12, 3) := by decide +kernel
theorem dX7_race_59 : decode cX7_race 59 = .ok (.aload_n 0, 1) := by decide +kernel
theorem dX7_race_60 : decode cX7_race 60 = .ok (.iload_n 3, 1) := by decide +kernel
theorem dX7_race_61 : decode cX7_race 61 = .ok (.invokevirtual 150, 3) := by decide +kernel
theorem dX7_race_64 : decode cX7_race 64 = .ok (.pop, 1) := by decide +kernel
theorem dX7_race_65 : decode cX7_race 65 = .ok (.iinc 1 1, 3) := by decide +kernel
theorem dX7_race_68 : decode cX7_race 68 = .ok (.goto (-42), 3) := by decide +kernel
theorem dX7_race_71 : decode cX7_race 71 = .ok (.aload_n 0, 1) := by decide +kernel
theorem dX7_race_72 : decode cX7_race 72 = .ok (.iload_n 2, 1) := by decide +kernel
theorem dX7_race_73 : decode cX7_race 73 = .ok (.ifCond .ne 8, 3) := by decide +kernel
theorem dX7_race_76 : decode cX7_race 76 = .ok (.bipush (-4), 2) := by decide +kernel
theorem dX7_race_78 : decode cX7_race 78 = .ok (.goto 4, 3) := by decide +kernel
theorem dX7_race_81 : decode cX7_race 81 = .ok (.iload_n 1, 1) := by decide +kernel
theorem dX7_race_82 : decode cX7_race 82 = .ok (.putfield 33, 3) := by decide +kernel
theorem dX7_race_85 : decode cX7_race 85 = .ok (.aload_n 0, 1) := by decide +kernel
theorem dX7_race_86 : decode cX7_race 86 = .ok (.iload_n 2, 1) := by decide +kernel
theorem dX7_race_87 : decode cX7_race 87 = .ok (.ifCond .ne 8, 3) := by decide +kernel
theorem dX7_race_90 : decode cX7_race 90 = .ok (.bipush (-4), 2) := by decide +kernel
theorem dX7_race_92 : decode cX7_race 92 = .ok (.goto 4, 3) := by decide +kernel
theorem dX7_race_95 : decode cX7_race 95 = .ok (.iload_n 2, 1) := by decide +kernel
theorem dX7_race_96 : decode cX7_race 96 = .ok (.putfield 36, 3) := by decide +kernel
theorem dX7_race_99 : decode cX7_race 99 = .ok (.aload_n 0, 1) := by decide +kernel
theorem dX7_race_100 : decode cX7_race 100 = .ok (.iconst 0, 1) := by decide +kernel
theorem dX7_race_101 : decode cX7_race 101 = .ok (.putfield 156, 3) := by decide +kernel
theorem dX7_race_104 : decode cX7_race 104 = .ok (.iload_n 1, 1) := by decide +kernel
theorem dX7_race_105 : decode cX7_race 105 = .ok (.ireturn, 1) := by decide +kernel
theorem dX7_why_0 : decode cX7_why 0 = .ok (.aload_n 0, 1) := by decide +kernel
theorem dX7_why_1 : decode cX7_why 1 = .ok (.iconst 0, 1) := by decide +kernel
theorem dX7_why_2 : decode cX7_why 2 = .ok (.putfield 29, 3) := by decide +kernel
theorem dX7_why_5 : decode cX7_why 5 = .ok (.iload_n 1, 1) := by decide +kernel
theorem dX7_why_6 : decode cX7_why 6 = .ok (.ifCond .ne 10, 3) := by decide +kernel
theorem dX7_why_9 : decode cX7_why 9 = .ok (.aload_n 0, 1) := by decide +kernel
theorem dX7_why_10 : decode cX7_why 10 = .ok (.getfield 33, 3) := by decide +kernel
theorem dX7_why_13 : decode cX7_why 13 = .ok (.goto 16, 3) := by decide +kernel
theorem dX7_why_16 : decode cX7_why 16 = .ok (.iload_n 1, 1) := by decide +kernel
theorem dX7_why_17 : decode cX7_why 17 = .ok (.iconst 1, 1) := by decide +kernel
theorem dX7_why_18 : decode cX7_why 18 = .ok (.if_icmp .ne 10, 3) := by decide +kernel
theorem dX7_why_21 : decode cX7_why 21 = .ok (.aload_n 0, 1) := by decide +kernel
theorem dX7_why_22 : decode cX7_why 22 = .ok (.getfield 36, 3) := by decide +kernel
theorem dX7_why_25 : decode cX7_why 25 = .ok (.goto 4, 3) := by decide +kernel
theorem dX7_why_28 : decode cX7_why 28 = .ok (.iconst (-1), 1) := by decide +kernel
theorem dX7_why_29 : decode cX7_why 29 = .ok (.ireturn, 1) := by decide +kernel
theorem dX7_mile_0 : decode cX7_mile 0 = .ok (.aload_n 0, 1) := by decide +kernel
theorem dX7_mile_1 : decode cX7_mile 1 = .ok (.iconst 0, 1) := by decide +kernel
theorem dX7_mile_2 : decode cX7_mile 2 = .ok (.putfield 29, 3) := by decide +kernel
theorem dX7_mile_5 : decode cX7_mile 5 = .ok (.iload_n 1, 1) := by decide +kernel
theorem dX7_mile_6 : decode cX7_mile 6 = .ok (.iconst 1, 1) := by decide +kernel
theorem dX7_mile_7 : decode cX7_mile 7 = .ok (.aload_n 0, 1) := by decide +kernel
theorem dX7_mile_8 : decode cX7_mile 8 = .ok (.getfield 7, 3) := by decide +kernel
theorem dX7_mile_11 : decode cX7_mile 11 = .ok (.iconst 2, 1) := by decide +kernel
theorem dX7_mile_12 : decode cX7_mile 12 = .ok (.iaload, 1) := by decide +kernel
theorem dX7_mile_13 : decode cX7_mile 13 = .ok (.invokestatic 49, 3) := by decide +kernel
theorem dX7_mile_16 : decode cX7_mile 16 = .ok (.ifCond .eq 12, 3) := by decide +kernel
theorem dX7_mile_19 : decode cX7_mile 19 = .ok (.iload_n 2, 1) := by decide +kernel
theorem dX7_mile_20 : decode cX7_mile 20 = .ok (.iconst 0, 1) := by decide +kernel
theorem dX7_mile_21 : decode cX7_mile 21 = .ok (.iconst 3, 1) := by decide +kernel
theorem dX7_mile_22 : decode cX7_mile 22 = .ok (.invokestatic 49, 3) := by decide +kernel
theorem dX7_mile_25 : decode cX7_mile 25 = .ok (.ifCond .ne 5, 3) := by decide +kernel
theorem dX7_mile_28 : decode cX7_mile 28 = .ok (.iconst (-1), 1) := by decide +kernel
theorem dX7_mile_29 : decode cX7_mile 29 = .ok (.ireturn, 1) := by decide +kernel
theorem dX7_mile_30 : decode cX7_mile 30 = .ok (.iload_n 2, 1) := by decide +kernel
theorem dX7_mile_31 : decode cX7_mile 31 = .ok (.lookupswitch 67 #[(0, 25), (1, 36)], 25) := by decide +kernel
theorem dX7_mile_56 : decode cX7_mile 56 = .ok (.aload_n 0, 1) := by decide +kernel
theorem dX7_mile_57 : decode cX7_mile 57 = .ok (.getfield 7, 3) := by decide +kernel
theorem dX7_mile_60 : decode cX7_mile 60 = .ok (.iconst 3, 1) := by decide +kernel
theorem dX7_mile_61 : decode cX7_mile 61 = .ok (.iload_n 1, 1) := by decide +kernel
theorem dX7_mile_62 : decode cX7_mile 62 = .ok (.iadd, 1) := by decide +kernel
theorem dX7_mile_63 : decode cX7_mile 63 = .ok (.iconst 1, 1) := by decide +kernel
theorem dX7_mile_64 : decode cX7_mile 64 = .ok (.isub, 1) := by decide +kernel
theorem dX7_mile_65 : decode cX7_mile 65 = .ok (.iaload, 1) := by decide +kernel
theorem dX7_mile_66 : decode cX7_mile 66 = .ok (.ireturn, 1) := by decide +kernel
theorem dX7_mile_67 : decode cX7_mile 67 = .ok (.aload_n 0, 1) := by decide +kernel
theorem dX7_mile_68 : decode cX7_mile 68 = .ok (.iconst 0, 1) := by decide +kernel
theorem dX7_mile_69 : decode cX7_mile 69 = .ok (.iconst 0, 1) := by decide +kernel
theorem dX7_mile_70 : decode cX7_mile 70 = .ok (.invokevirtual 123, 3) := by decide +kernel
theorem dX7_mile_73 : decode cX7_mile 73 = .ok (.iload_n 1, 1) := by decide +kernel
theorem dX7_mile_74 : decode cX7_mile 74 = .ok (.if_icmp .ne 7, 3) := by decide +kernel
theorem dX7_mile_77 : decode cX7_mile 77 = .ok (.iconst 0, 1) := by decide +kernel
theorem dX7_mile_78 : decode cX7_mile 78 = .ok (.goto 19, 3) := by decide +kernel
theorem dX7_mile_81 : decode cX7_mile 81 = .ok (.aload_n 0, 1) := by decide +kernel
theorem dX7_mile_82 : decode cX7_mile 82 = .ok (.iconst 1, 1) := by decide +kernel
theorem dX7_mile_83 : decode cX7_mile 83 = .ok (.iconst 0, 1) := by decide +kernel
theorem dX7_mile_84 : decode cX7_mile 84 = .ok (.invokevirtual 123, 3) := by decide +kernel
theorem dX7_mile_87 : decode cX7_mile 87 = .ok (.iload_n 1, 1) := by decide +kernel
theorem dX7_mile_88 : decode cX7_mile 88 = .ok (.if_icmp .ne 7, 3) := by decide +kernel
theorem dX7_mile_91 : decode cX7_mile 91 = .ok (.iconst 1, 1) := by decide +kernel
theorem dX7_mile_92 : decode cX7_mile 92 = .ok (.goto 5, 3) := by decide +kernel
theorem dX7_mile_95 : decode cX7_mile 95 = .ok (.bipush (-4), 2) := by decide +kernel
theorem dX7_mile_97 : decode cX7_mile 97 = .ok (.ireturn, 1) := by decide +kernel
theorem dX7_mile_98 : decode cX7_mile 98 = .ok (.aload_n 0, 1) := by decide +kernel
theorem dX7_mile_99 : decode cX7_mile 99 = .ok (.getfield 7, 3) := by decide +kernel
theorem dX7_mile_102 : decode cX7_mile 102 = .ok (.bipush 39, 2) := by decide +kernel
theorem dX7_mile_104 : decode cX7_mile 104 = .ok (.iconst 2, 1) := by decide +kernel
theorem dX7_mile_105 : decode cX7_mile 105 = .ok (.iload_n 1, 1) := by decide +kernel
theorem dX7_mile_106 : decode cX7_mile 106 = .ok (.iconst 1, 1) := by decide +kernel
theorem dX7_mile_107 : decode cX7_mile 107 = .ok (.isub, 1) := by decide +kernel
theorem dX7_mile_108 : decode cX7_mile 108 = .ok (.imul, 1) := by decide +kernel
theorem dX7_mile_109 : decode cX7_mile 109 = .ok (.iadd, 1) := by decide +kernel
theorem dX7_mile_110 : decode cX7_mile 110 = .ok (.iload_n 2, 1) := by decide +kernel
theorem dX7_mile_111 : decode cX7_mile 111 = .ok (.iadd, 1) := by decide +kernel
theorem dX7_mile_112 : decode cX7_mile 112 = .ok (.iconst 2, 1) := by decide +kernel
theorem dX7_mile_113 : decode cX7_mile 113 = .ok (.isub, 1) := by decide +kernel
theorem dX7_mile_114 : decode cX7_mile 114 = .ok (.iaload, 1) := by decide +kernel
theorem dX7_mile_115 : decode cX7_mile 115 = .ok (.ireturn, 1) := by decide +kernel
theorem dX7_wagon_0 : decode cX7_wagon 0 = .ok (.aload_n 0, 1) := by decide +kernel
theorem dX7_wagon_1 : decode cX7_wagon 1 = .ok (.iconst 0, 1) := by decide +kernel
theorem dX7_wagon_2 : decode cX7_wagon 2 = .ok (.putfield 29, 3) := by decide +kernel
theorem dX7_wagon_5 : decode cX7_wagon 5 = .ok (.iload_n 1, 1) := by decide +kernel
theorem dX7_wagon_6 : decode cX7_wagon 6 = .ok (.iconst 0, 1) := by decide +kernel
theorem dX7_wagon_7 : decode cX7_wagon 7 = .ok (.iconst 1, 1) := by decide +kernel
theorem dX7_wagon_8 : decode cX7_wagon 8 = .ok (.invokestatic 49, 3) := by decide +kernel
theorem dX7_wagon_11 : decode cX7_wagon 11 = .ok (.ifCond .eq 22, 3) := by decide +kernel
theorem dX7_wagon_14 : decode cX7_wagon 14 = .ok (.iload_n 2, 1) := by decide +kernel
theorem dX7_wagon_15 : decode cX7_wagon 15 = .ok (.iconst 0, 1) := by decide +kernel
theorem dX7_wagon_16 : decode cX7_wagon 16 = .ok (.bipush 7, 2) := by decide +kernel
theorem dX7_wagon_18 : decode cX7_wagon 18 = .ok (.invokestatic 49, 3) := by decide +kernel
theorem dX7_wagon_21 : decode cX7_wagon 21 = .ok (.ifCond .eq 12, 3) := by decide +kernel
theorem dX7_wagon_24 : decode cX7_wagon 24 = .ok (.aload_n 0, 1) := by decide +kernel
theorem dX7_wagon_25 : decode cX7_wagon 25 = .ok (.iload_n 1, 1) := by decide +kernel
theorem dX7_wagon_26 : decode cX7_wagon 26 = .ok (.iload_n 2, 1) := by decide +kernel
theorem dX7_wagon_27 : decode cX7_wagon 27 = .ok (.invokevirtual 123, 3) := by decide +kernel
theorem dX7_wagon_30 : decode cX7_wagon 30 = .ok (.goto 4, 3) := by decide +kernel
theorem dX7_wagon_33 : decode cX7_wagon 33 = .ok (.iconst (-1), 1) := by decide +kernel
theorem dX7_wagon_34 : decode cX7_wagon 34 = .ok (.ireturn, 1) := by decide +kernel
theorem dX7_ends_0 : decode cX7_ends 0 = .ok (.aload_n 0, 1) := by decide +kernel
theorem dX7_ends_1 : decode cX7_ends 1 = .ok (.iconst 0, 1) := by decide +kernel
theorem dX7_ends_2 : decode cX7_ends 2 = .ok (.putfield 29, 3) := by decide +kernel
theorem dX7_ends_5 : decode cX7_ends 5 = .ok (.iload_n 1, 1) := by decide +kernel
theorem dX7_ends_6 : decode cX7_ends 6 = .ok (.iconst 1, 1) := by decide +kernel
theorem dX7_ends_7 : decode cX7_ends 7 = .ok (.iconst 4, 1) := by decide +kernel
theorem dX7_ends_8 : decode cX7_ends 8 = .ok (.invokestatic 49, 3) := by decide +kernel
theorem dX7_ends_11 : decode cX7_ends 11 = .ok (.ifCond .ne 5, 3) := by decide +kernel
theorem dX7_ends_14 : decode cX7_ends 14 = .ok (.iconst (-1), 1) := by decide +kernel
theorem dX7_ends_15 : decode cX7_ends 15 = .ok (.ireturn, 1) := by decide +kernel
theorem dX7_ends_16 : decode cX7_ends 16 = .ok (.aload_n 0, 1) := by decide +kernel
theorem dX7_ends_17 : decode cX7_ends 17 = .ok (.iload_n 1, 1) := by decide +kernel
theorem dX7_ends_18 : decode cX7_ends 18 = .ok (.invokevirtual 141, 3) := by decide +kernel
theorem dX7_ends_21 : decode cX7_ends 21 = .ok (.ifCond .eq 6, 3) := by decide +kernel
theorem dX7_ends_24 : decode cX7_ends 24 = .ok (.bipush (-2), 2) := by decide +kernel
theorem dX7_ends_26 : decode cX7_ends 26 = .ok (.ireturn, 1) := by decide +kernel
theorem dX7_ends_27 : decode cX7_ends 27 = .ok (.aload_n 0, 1) := by decide +kernel
theorem dX7_ends_28 : decode cX7_ends 28 = .ok (.aload_n 0, 1) := by decide +kernel
theorem dX7_ends_29 : decode cX7_ends 29 = .ok (.aload_n 0, 1) := by decide +kernel
theorem dX7_ends_30 : decode cX7_ends 30 = .ok (.getfield 7, 3) := by decide +kernel
theorem dX7_ends_33 : decode cX7_ends 33 = .ok (.bipush 17, 2) := by decide +kernel
theorem dX7_ends_35 : decode cX7_ends 35 = .ok (.iaload, 1) := by decide +kernel
theorem dX7_ends_36 : decode cX7_ends 36 = .ok (.iconst 0, 1) := by decide +kernel
theorem dX7_ends_37 : decode cX7_ends 37 = .ok (.invokevirtual 123, 3) := by decide +kernel
theorem dX7_ends_40 : decode cX7_ends 40 = .ok (.aload_n 0, 1) := by decide +kernel
theorem dX7_ends_41 : decode cX7_ends 41 = .ok (.iconst 1, 1) := by decide +kernel
theorem dX7_ends_42 : decode cX7_ends 42 = .ok (.aload_n 0, 1) := by decide +kernel
theorem dX7_ends_43 : decode cX7_ends 43 = .ok (.getfield 7, 3) := by decide +kernel
theorem dX7_ends_46 : decode cX7_ends 46 = .ok (.bipush 17, 2) := by decide +kernel
theorem dX7_ends_48 : decode cX7_ends 48 = .ok (.iaload, 1) := by decide +kernel
theorem dX7_ends_49 : decode cX7_ends 49 = .ok (.isub, 1) := by decide +kernel
theorem dX7_ends_50 : decode cX7_ends 50 = .ok (.iconst 0, 1) := by decide +kernel
theorem dX7_ends_51 : decode cX7_ends 51 = .ok (.invokevirtual 123, 3) := by decide +kernel
theorem dX7_ends_54 : decode cX7_ends 54 = .ok (.iload_n 1, 1) := by decide +kernel
theorem dX7_ends_55 : decode cX7_ends 55 = .ok (.bipush (-4), 2) := by decide +kernel
theorem dX7_ends_57 : decode cX7_ends 57 = .ok (.invokevirtual 85, 3) := by decide +kernel
theorem dX7_ends_60 : decode cX7_ends 60 = .ok (.aload_n 0, 1) := by decide +kernel
theorem dX7_ends_61 : decode cX7_ends 61 = .ok (.getfield 63, 3) := by decide +kernel
theorem dX7_ends_64 : decode cX7_ends 64 = .ok (.ireturn, 1) := by decide +kernel
theorem dX7_worth_0 : decode cX7_worth 0 = .ok (.aload_n 0, 1) := by decide +kernel
theorem dX7_worth_1 : decode cX7_worth 1 = .ok (.iconst 0, 1) := by decide +kernel
theorem dX7_worth_2 : decode cX7_worth 2 = .ok (.putfield 29, 3) := by decide +kernel
theorem dX7_worth_5 : decode cX7_worth 5 = .ok (.iload_n 1, 1) := by decide +kernel
theorem dX7_worth_6 : decode cX7_worth 6 = .ok (.iconst 0, 1) := by decide +kernel
theorem dX7_worth_7 : decode cX7_worth 7 = .ok (.iconst 1, 1) := by decide +kernel
theorem dX7_worth_8 : decode cX7_worth 8 = .ok (.invokestatic 49, 3) := by decide +kernel
theorem dX7_worth_11 : decode cX7_worth 11 = .ok (.ifCond .eq 14, 3) := by decide +kernel
theorem dX7_worth_14 : decode cX7_worth 14 = .ok (.sipush 1000, 3) := by decide +kernel
theorem dX7_worth_17 : decode cX7_worth 17 = .ok (.aload_n 0, 1) := by decide +kernel
theorem dX7_worth_18 : decode cX7_worth 18 = .ok (.invokevirtual 172, 3) := by decide +kernel
theorem dX7_worth_21 : decode cX7_worth 21 = .ok (.iadd, 1) := by decide +kernel
theorem dX7_worth_22 : decode cX7_worth 22 = .ok (.goto 4, 3) := by decide +kernel
theorem dX7_worth_25 : decode cX7_worth 25 = .ok (.iconst (-1), 1) := by decide +kernel
theorem dX7_worth_26 : decode cX7_worth 26 = .ok (.ireturn, 1) := by decide +kernel
theorem dX7_worthOf_0 : decode cX7_worthOf 0 = .ok (.aload_n 0, 1) := by decide +kernel
theorem dX7_worthOf_1 : decode cX7_worthOf 1 = .ok (.iconst 0, 1) := by decide +kernel
theorem dX7_worthOf_2 : decode cX7_worthOf 2 = .ok (.putfield 29, 3) := by decide +kernel
theorem dX7_worthOf_5 : decode cX7_worthOf 5 = .ok (.iload_n 1, 1) := by decide +kernel
theorem dX7_worthOf_6 : decode cX7_worthOf 6 = .ok (.iconst 1, 1) := by decide +kernel
theorem dX7_worthOf_7 : decode cX7_worthOf 7 = .ok (.iconst 5, 1) := by decide +kernel
theorem dX7_worthOf_8 : decode cX7_worthOf 8 = .ok (.invokestatic 49, 3) := by decide +kernel
theorem dX7_worthOf_11 : decode cX7_worthOf 11 = .ok (.ifCond .ne 5, 3) := by decide +kernel
theorem dX7_worthOf_14 : decode cX7_worthOf 14 = .ok (.iconst (-1), 1) := by decide +kernel
theorem dX7_worthOf_15 : decode cX7_worthOf 15 = .ok (.ireturn, 1) := by decide +kernel
theorem dX7_worthOf_16 : decode cX7_worthOf 16 = .ok (.aload_n 0, 1) := by decide +kernel
theorem dX7_worthOf_17 : decode cX7_worthOf 17 = .ok (.iload_n 1, 1) := by decide +kernel
theorem dX7_worthOf_18 : decode cX7_worthOf 18 = .ok (.invokevirtual 141, 3) := by decide +kernel
theorem dX7_worthOf_21 : decode cX7_worthOf 21 = .ok (.ifCond .eq 8, 3) := by decide +kernel
theorem dX7_worthOf_24 : decode cX7_worthOf 24 = .ok (.bipush (-2), 2) := by decide +kernel
theorem dX7_worthOf_26 : decode cX7_worthOf 26 = .ok (.goto 12, 3) := by decide +kernel
theorem dX7_worthOf_29 : decode cX7_worthOf 29 = .ok (.sipush 1000, 3) := by decide +kernel
theorem dX7_worthOf_32 : decode cX7_worthOf 32 = .ok (.aload_n 0, 1) := by decide +kernel
theorem dX7_worthOf_33 : decode cX7_worthOf 33 = .ok (.iload_n 1, 1) := by decide +kernel
theorem dX7_worthOf_34 : decode cX7_worthOf 34 = .ok (.invokevirtual 126, 3) := by decide +kernel
theorem dX7_worthOf_37 : decode cX7_worthOf 37 = .ok (.iadd, 1) := by decide +kernel
theorem dX7_worthOf_38 : decode cX7_worthOf 38 = .ok (.ireturn, 1) := by decide +kernel
theorem dX7_bestTurn_0 : decode cX7_bestTurn 0 = .ok (.aload_n 0, 1) := by decide +kernel
theorem dX7_bestTurn_1 : decode cX7_bestTurn 1 = .ok (.iconst 0, 1) := by decide +kernel
theorem dX7_bestTurn_2 : decode cX7_bestTurn 2 = .ok (.putfield 29, 3) := by decide +kernel
theorem dX7_bestTurn_5 : decode cX7_bestTurn 5 = .ok (.aload_n 0, 1) := by decide +kernel
theorem dX7_bestTurn_6 : decode cX7_bestTurn 6 = .ok (.invokevirtual 116, 3) := by decide +kernel
theorem dX7_bestTurn_9 : decode cX7_bestTurn 9 = .ok (.ifCond .eq 8, 3) := by decide +kernel
theorem dX7_bestTurn_12 : decode cX7_bestTurn 12 = .ok (.bipush (-2), 2) := by decide +kernel
theorem dX7_bestTurn_14 : decode cX7_bestTurn 14 = .ok (.goto 7, 3) := by decide +kernel
theorem dX7_bestTurn_17 : decode cX7_bestTurn 17 = .ok (.aload_n 0, 1) := by decide +kernel
theorem dX7_bestTurn_18 : decode cX7_bestTurn 18 = .ok (.invokevirtual 147, 3) := by decide +kernel
theorem dX7_bestTurn_21 : decode cX7_bestTurn 21 = .ok (.ireturn, 1) := by decide +kernel
theorem dX7_miles_0 : decode cX7_miles 0 = .ok (.iconst 0, 1) := by decide +kernel
theorem dX7_miles_1 : decode cX7_miles 1 = .ok (.istore_n 2, 1) := by decide +kernel
theorem dX7_miles_2 : decode cX7_miles 2 = .ok (.iconst 0, 1) := by decide +kernel
theorem dX7_miles_3 : decode cX7_miles 3 = .ok (.istore_n 3, 1) := by decide +kernel
theorem dX7_miles_4 : decode cX7_miles 4 = .ok (.iload_n 3, 1) := by decide +kernel
theorem dX7_miles_5 : decode cX7_miles 5 = .ok (.aload_n 0, 1) := by decide +kernel
theorem dX7_miles_6 : decode cX7_miles 6 = .ok (.getfield 7, 3) := by decide +kernel
theorem dX7_miles_9 : decode cX7_miles 9 = .ok (.iconst 2, 1) := by decide +kernel
theorem dX7_miles_10 : decode cX7_miles 10 = .ok (.iaload, 1) := by decide +kernel
theorem dX7_miles_11 : decode cX7_miles 11 = .ok (.if_icmp .ge 29, 3) := by decide +kernel
theorem dX7_miles_14 : decode cX7_miles 14 = .ok (.iload_n 2, 1) := by decide +kernel
theorem dX7_miles_15 : decode cX7_miles 15 = .ok (.aload_n 0, 1) := by decide +kernel
theorem dX7_miles_16 : decode cX7_miles 16 = .ok (.getfield 7, 3) := by decide +kernel
theorem dX7_miles_19 : decode cX7_miles 19 = .ok (.iconst 3, 1) := by decide +kernel
theorem dX7_miles_20 : decode cX7_miles 20 = .ok (.iload_n 3, 1) := by decide +kernel
theorem dX7_miles_21 : decode cX7_miles 21 = .ok (.iadd, 1) := by decide +kernel
theorem dX7_miles_22 : decode cX7_miles 22 = .ok (.iaload, 1) := by decide +kernel
theorem dX7_miles_23 : decode cX7_miles 23 = .ok (.iload_n 1, 1) := by decide +kernel
theorem dX7_miles_24 : decode cX7_miles 24 = .ok (.if_icmp .ne 7, 3) := by decide +kernel
theorem dX7_miles_27 : decode cX7_miles 27 = .ok (.iconst 1, 1) := by decide +kernel
theorem dX7_miles_28 : decode cX7_miles 28 = .ok (.goto 4, 3) := by decide +kernel
theorem dX7_miles_31 : decode cX7_miles 31 = .ok (.iconst 0, 1) := by decide +kernel
theorem dX7_miles_32 : decode cX7_miles 32 = .ok (.iadd, 1) := by decide +kernel
theorem dX7_miles_33 : decode cX7_miles 33 = .ok (.istore_n 2, 1) := by decide +kernel
theorem dX7_miles_34 : decode cX7_miles 34 = .ok (.iinc 3 1, 3) := by decide +kernel
theorem dX7_miles_37 : decode cX7_miles 37 = .ok (.goto (-33), 3) := by decide +kernel
theorem dX7_miles_40 : decode cX7_miles 40 = .ok (.iload_n 2, 1) := by decide +kernel
theorem dX7_miles_41 : decode cX7_miles 41 = .ok (.ireturn, 1) := by decide +kernel
theorem dX7_count_0 : decode cX7_count 0 = .ok (.aload_n 0, 1) := by decide +kernel
theorem dX7_count_1 : decode cX7_count 1 = .ok (.iconst 0, 1) := by decide +kernel
theorem dX7_count_2 : decode cX7_count 2 = .ok (.putfield 29, 3) := by decide +kernel
theorem dX7_count_5 : decode cX7_count 5 = .ok (.iload_n 1, 1) := by decide +kernel
theorem dX7_count_6 : decode cX7_count 6 = .ok (.tableswitch 154 0 13 #[70, 77, 97, 105, 113, 113, 113, 121, 121, 121, 134, 134, 144, 149], 70) := by decide +kernel
theorem dX7_count_76 : decode cX7_count 76 = .ok (.aload_n 0, 1) := by decide +kernel
theorem dX7_count_77 : decode cX7_count 77 = .ok (.getfield 7, 3) := by decide +kernel
theorem dX7_count_80 : decode cX7_count 80 = .ok (.iconst 2, 1) := by decide +kernel
theorem dX7_count_81 : decode cX7_count 81 = .ok (.iaload, 1) := by decide +kernel
theorem dX7_count_82 : decode cX7_count 82 = .ok (.ireturn, 1) := by decide +kernel
theorem dX7_count_83 : decode cX7_count 83 = .ok (.aload_n 0, 1) := by decide +kernel
theorem dX7_count_84 : decode cX7_count 84 = .ok (.invokevirtual 116, 3) := by decide +kernel
theorem dX7_count_87 : decode cX7_count 87 = .ok (.ifCond .eq 8, 3) := by decide +kernel
theorem dX7_count_90 : decode cX7_count 90 = .ok (.bipush (-4), 2) := by decide +kernel
theorem dX7_count_92 : decode cX7_count 92 = .ok (.goto 10, 3) := by decide +kernel
theorem dX7_count_95 : decode cX7_count 95 = .ok (.aload_n 0, 1) := by decide +kernel
theorem dX7_count_96 : decode cX7_count 96 = .ok (.getfield 7, 3) := by decide +kernel
theorem dX7_count_99 : decode cX7_count 99 = .ok (.bipush 17, 2) := by decide +kernel
theorem dX7_count_101 : decode cX7_count 101 = .ok (.iaload, 1) := by decide +kernel
theorem dX7_count_102 : decode cX7_count 102 = .ok (.ireturn, 1) := by decide +kernel
theorem dX7_count_103 : decode cX7_count 103 = .ok (.aload_n 0, 1) := by decide +kernel
theorem dX7_count_104 : decode cX7_count 104 = .ok (.getfield 7, 3) := by decide +kernel
theorem dX7_count_107 : decode cX7_count 107 = .ok (.bipush 22, 2) := by decide +kernel
theorem dX7_count_109 : decode cX7_count 109 = .ok (.iaload, 1) := by decide +kernel
theorem dX7_count_110 : decode cX7_count 110 = .ok (.ireturn, 1) := by decide +kernel
theorem dX7_count_111 : decode cX7_count 111 = .ok (.aload_n 0, 1) := by decide +kernel
theorem dX7_count_112 : decode cX7_count 112 = .ok (.getfield 7, 3) := by decide +kernel
theorem dX7_count_115 : decode cX7_count 115 = .ok (.bipush 18, 2) := by decide +kernel
theorem dX7_count_117 : decode cX7_count 117 = .ok (.iaload, 1) := by decide +kernel
theorem dX7_count_118 : decode cX7_count 118 = .ok (.ireturn, 1) := by decide +kernel
theorem dX7_count_119 : decode cX7_count 119 = .ok (.aload_n 0, 1) := by decide +kernel
theorem dX7_count_120 : decode cX7_count 120 = .ok (.iload_n 1, 1) := by decide +kernel
theorem dX7_count_121 : decode cX7_count 121 = .ok (.iconst 3, 1) := by decide +kernel
theorem dX7_count_122 : decode cX7_count 122 = .ok (.isub, 1) := by decide +kernel
theorem dX7_count_123 : decode cX7_count 123 = .ok (.invokevirtual 175, 3) := by decide +kernel
theorem dX7_count_126 : decode cX7_count 126 = .ok (.ireturn, 1) := by decide +kernel
theorem dX7_count_127 : decode cX7_count 127 = .ok (.aload_n 0, 1) := by decide +kernel
theorem dX7_count_128 : decode cX7_count 128 = .ok (.getfield 7, 3) := by decide +kernel
theorem dX7_count_131 : decode cX7_count 131 = .ok (.bipush 19, 2) := by decide +kernel
theorem dX7_count_133 : decode cX7_count 133 = .ok (.iload_n 1, 1) := by decide +kernel
theorem dX7_count_134 : decode cX7_count 134 = .ok (.iadd, 1) := by decide +kernel
theorem dX7_count_135 : decode cX7_count 135 = .ok (.bipush 7, 2) := by decide +kernel
theorem dX7_count_137 : decode cX7_count 137 = .ok (.isub, 1) := by decide +kernel
theorem dX7_count_138 : decode cX7_count 138 = .ok (.iaload, 1) := by decide +kernel
theorem dX7_count_139 : decode cX7_count 139 = .ok (.ireturn, 1) := by decide +kernel
theorem dX7_count_140 : decode cX7_count 140 = .ok (.aload_n 0, 1) := by decide +kernel
theorem dX7_count_141 : decode cX7_count 141 = .ok (.getfield 7, 3) := by decide +kernel
theorem dX7_count_144 : decode cX7_count 144 = .ok (.iload_n 1, 1) := by decide +kernel
theorem dX7_count_145 : decode cX7_count 145 = .ok (.bipush 10, 2) := by decide +kernel
theorem dX7_count_147 : decode cX7_count 147 = .ok (.isub, 1) := by decide +kernel
theorem dX7_count_148 : decode cX7_count 148 = .ok (.iaload, 1) := by decide +kernel
theorem dX7_count_149 : decode cX7_count 149 = .ok (.ireturn, 1) := by decide +kernel
theorem dX7_count_150 : decode cX7_count 150 = .ok (.aload_n 0, 1) := by decide +kernel
theorem dX7_count_151 : decode cX7_count 151 = .ok (.getfield 156, 3) := by decide +kernel
theorem dX7_count_154 : decode cX7_count 154 = .ok (.ireturn, 1) := by decide +kernel
theorem dX7_count_155 : decode cX7_count 155 = .ok (.aload_n 0, 1) := by decide +kernel
theorem dX7_count_156 : decode cX7_count 156 = .ok (.getfield 46, 3) := by decide +kernel
theorem dX7_count_159 : decode cX7_count 159 = .ok (.ireturn, 1) := by decide +kernel
theorem dX7_count_160 : decode cX7_count 160 = .ok (.iconst (-1), 1) := by decide +kernel
theorem dX7_count_161 : decode cX7_count 161 = .ok (.ireturn, 1) := by decide +kernel
theorem dX7_speed_0 : decode cX7_speed 0 = .ok (.aload_n 0, 1) := by decide +kernel
theorem dX7_speed_1 : decode cX7_speed 1 = .ok (.iconst 0, 1) := by decide +kernel
theorem dX7_speed_2 : decode cX7_speed 2 = .ok (.putfield 29, 3) := by decide +kernel
theorem dX7_speed_5 : decode cX7_speed 5 = .ok (.aload_n 0, 1) := by decide +kernel
theorem dX7_speed_6 : decode cX7_speed 6 = .ok (.getfield 7, 3) := by decide +kernel
theorem dX7_speed_9 : decode cX7_speed 9 = .ok (.bipush 18, 2) := by decide +kernel
theorem dX7_speed_11 : decode cX7_speed 11 = .ok (.iaload, 1) := by decide +kernel
theorem dX7_speed_12 : decode cX7_speed 12 = .ok (.ifCond .ne 7, 3) := by decide +kernel
theorem dX7_speed_15 : decode cX7_speed 15 = .ok (.dconst 0, 1) := by decide +kernel
theorem dX7_speed_16 : decode cX7_speed 16 = .ok (.goto 26, 3) := by decide +kernel
theorem dX7_speed_19 : decode cX7_speed 19 = .ok (.aload_n 0, 1) := by decide +kernel
theorem dX7_speed_20 : decode cX7_speed 20 = .ok (.iconst 0, 1) := by decide +kernel
theorem dX7_speed_21 : decode cX7_speed 21 = .ok (.iconst 0, 1) := by decide +kernel
theorem dX7_speed_22 : decode cX7_speed 22 = .ok (.invokevirtual 123, 3) := by decide +kernel
theorem dX7_speed_25 : decode cX7_speed 25 = .ok (.aload_n 0, 1) := by decide +kernel
theorem dX7_speed_26 : decode cX7_speed 26 = .ok (.iconst 1, 1) := by decide +kernel
theorem dX7_speed_27 : decode cX7_speed 27 = .ok (.iconst 0, 1) := by decide +kernel
theorem dX7_speed_28 : decode cX7_speed 28 = .ok (.invokevirtual 123, 3) := by decide +kernel
theorem dX7_speed_31 : decode cX7_speed 31 = .ok (.iadd, 1) := by decide +kernel
theorem dX7_speed_32 : decode cX7_speed 32 = .ok (.i2d, 1) := by decide +kernel
theorem dX7_speed_33 : decode cX7_speed 33 = .ok (.aload_n 0, 1) := by decide +kernel
theorem dX7_speed_34 : decode cX7_speed 34 = .ok (.getfield 7, 3) := by decide +kernel
theorem dX7_speed_37 : decode cX7_speed 37 = .ok (.bipush 18, 2) := by decide +kernel
theorem dX7_speed_39 : decode cX7_speed 39 = .ok (.iaload, 1) := by decide +kernel
theorem dX7_speed_40 : decode cX7_speed 40 = .ok (.i2d, 1) := by decide +kernel
theorem dX7_speed_41 : decode cX7_speed 41 = .ok (.ddiv, 1) := by decide +kernel
theorem dX7_speed_42 : decode cX7_speed 42 = .ok (.dreturn, 1) := by decide +kernel
theorem dX7_ended_0 : decode cX7_ended 0 = .ok (.aload_n 0, 1) := by decide +kernel
theorem dX7_ended_1 : decode cX7_ended 1 = .ok (.iconst 0, 1) := by decide +kernel
theorem dX7_ended_2 : decode cX7_ended 2 = .ok (.putfield 29, 3) := by decide +kernel
theorem dX7_ended_5 : decode cX7_ended 5 = .ok (.iload_n 1, 1) := by decide +kernel
theorem dX7_ended_6 : decode cX7_ended 6 = .ok (.iconst 0, 1) := by decide +kernel
theorem dX7_ended_7 : decode cX7_ended 7 = .ok (.iconst 1, 1) := by decide +kernel
theorem dX7_ended_8 : decode cX7_ended 8 = .ok (.invokestatic 49, 3) := by decide +kernel
theorem dX7_ended_11 : decode cX7_ended 11 = .ok (.ifCond .eq 21, 3) := by decide +kernel
theorem dX7_ended_14 : decode cX7_ended 14 = .ok (.iload_n 2, 1) := by decide +kernel
theorem dX7_ended_15 : decode cX7_ended 15 = .ok (.iconst 0, 1) := by decide +kernel
theorem dX7_ended_16 : decode cX7_ended 16 = .ok (.iconst 1, 1) := by decide +kernel
theorem dX7_ended_17 : decode cX7_ended 17 = .ok (.invokestatic 49, 3) := by decide +kernel
theorem dX7_ended_20 : decode cX7_ended 20 = .ok (.ifCond .eq 12, 3) := by decide +kernel
theorem dX7_ended_23 : decode cX7_ended 23 = .ok (.iload_n 3, 1) := by decide +kernel
theorem dX7_ended_24 : decode cX7_ended 24 = .ok (.iconst 0, 1) := by decide +kernel
theorem dX7_ended_25 : decode cX7_ended 25 = .ok (.iconst 2, 1) := by decide +kernel
theorem dX7_ended_26 : decode cX7_ended 26 = .ok (.invokestatic 49, 3) := by decide +kernel
theorem dX7_ended_29 : decode cX7_ended 29 = .ok (.ifCond .ne 5, 3) := by decide +kernel
theorem dX7_ended_32 : decode cX7_ended 32 = .ok (.iconst (-1), 1) := by decide +kernel
theorem dX7_ended_33 : decode cX7_ended 33 = .ok (.ireturn, 1) := by decide +kernel
theorem dX7_ended_34 : decode cX7_ended 34 = .ok (.aload_n 0, 1) := by decide +kernel
theorem dX7_ended_35 : decode cX7_ended 35 = .ok (.invokevirtual 178, 3) := by decide +kernel
theorem dX7_ended_38 : decode cX7_ended 38 = .ok (.iconst 0, 1) := by decide +kernel
theorem dX7_ended_39 : decode cX7_ended 39 = .ok (.istore 4, 2) := by decide +kernel
theorem dX7_ended_41 : decode cX7_ended 41 = .ok (.aload_n 0, 1) := by decide +kernel
theorem dX7_ended_42 : decode cX7_ended 42 = .ok (.invokevirtual 116, 3) := by decide +kernel
theorem dX7_ended_45 : decode cX7_ended 45 = .ok (.ifCond .ne 43, 3) := by decide +kernel
theorem dX7_ended_48 : decode cX7_ended 48 = .ok (.aload_n 0, 1) := by decide +kernel
theorem dX7_ended_49 : decode cX7_ended 49 = .ok (.aload_n 0, 1) := by decide +kernel
theorem dX7_ended_50 : decode cX7_ended 50 = .ok (.getfield 7, 3) := by decide +kernel
theorem dX7_ended_53 : decode cX7_ended 53 = .ok (.bipush 17, 2) := by decide +kernel
theorem dX7_ended_55 : decode cX7_ended 55 = .ok (.iaload, 1) := by decide +kernel
theorem dX7_ended_56 : decode cX7_ended 56 = .ok (.ifCond .ne 7, 3) := by decide +kernel
theorem dX7_ended_59 : decode cX7_ended 59 = .ok (.iload_n 1, 1) := by decide +kernel
theorem dX7_ended_60 : decode cX7_ended 60 = .ok (.goto 4, 3) := by decide +kernel
theorem dX7_ended_63 : decode cX7_ended 63 = .ok (.iload_n 2, 1) := by decide +kernel
theorem dX7_ended_64 : decode cX7_ended 64 = .ok (.ifCond .ne 10, 3) := by decide +kernel
theorem dX7_ended_67 : decode cX7_ended 67 = .ok (.aload_n 0, 1) := by decide +kernel
theorem dX7_ended_68 : decode cX7_ended 68 = .ok (.invokevirtual 147, 3) := by decide +kernel
theorem dX7_ended_71 : decode cX7_ended 71 = .ok (.goto 7, 3) := by decide +kernel
theorem dX7_ended_74 : decode cX7_ended 74 = .ok (.aload_n 0, 1) := by decide +kernel
theorem dX7_ended_75 : decode cX7_ended 75 = .ok (.invokevirtual 153, 3) := by decide +kernel
theorem dX7_ended_78 : decode cX7_ended 78 = .ok (.invokevirtual 150, 3) := by decide +kernel
theorem dX7_ended_81 : decode cX7_ended 81 = .ok (.pop, 1) := by decide +kernel
theorem dX7_ended_82 : decode cX7_ended 82 = .ok (.iinc 4 1, 3) := by decide +kernel
theorem dX7_ended_85 : decode cX7_ended 85 = .ok (.goto (-44), 3) := by decide +kernel
theorem dX7_ended_88 : decode cX7_ended 88 = .ok (.aload_n 0, 1) := by decide +kernel
theorem dX7_ended_89 : decode cX7_ended 89 = .ok (.getfield 7, 3) := by decide +kernel
theorem dX7_ended_92 : decode cX7_ended 92 = .ok (.bipush 22, 2) := by decide +kernel
theorem dX7_ended_94 : decode cX7_ended 94 = .ok (.iaload, 1) := by decide +kernel
theorem dX7_ended_95 : decode cX7_ended 95 = .ok (.istore 5, 2) := by decide +kernel
theorem dX7_ended_97 : decode cX7_ended 97 = .ok (.iload_n 3, 1) := by decide +kernel
theorem dX7_ended_98 : decode cX7_ended 98 = .ok (.ifCond .ne 8, 3) := by decide +kernel
theorem dX7_ended_101 : decode cX7_ended 101 = .ok (.iload 5, 2) := by decide +kernel
theorem dX7_ended_103 : decode cX7_ended 103 = .ok (.goto 22, 3) := by decide +kernel
theorem dX7_ended_106 : decode cX7_ended 106 = .ok (.iload_n 3, 1) := by decide +kernel
theorem dX7_ended_107 : decode cX7_ended 107 = .ok (.iconst 1, 1) := by decide +kernel
theorem dX7_ended_108 : decode cX7_ended 108 = .ok (.if_icmp .ne 8, 3) := by decide +kernel
theorem dX7_ended_111 : decode cX7_ended 111 = .ok (.iload 4, 2) := by decide +kernel
theorem dX7_ended_113 : decode cX7_ended 113 = .ok (.goto 12, 3) := by decide +kernel
theorem dX7_ended_116 : decode cX7_ended 116 = .ok (.aload_n 0, 1) := by decide +kernel
theorem dX7_ended_117 : decode cX7_ended 117 = .ok (.iconst 1, 1) := by decide +kernel
theorem dX7_ended_118 : decode cX7_ended 118 = .ok (.iload 5, 2) := by decide +kernel
theorem dX7_ended_120 : decode cX7_ended 120 = .ok (.isub, 1) := by decide +kernel
theorem dX7_ended_121 : decode cX7_ended 121 = .ok (.iconst 0, 1) := by decide +kernel
theorem dX7_ended_122 : decode cX7_ended 122 = .ok (.invokevirtual 123, 3) := by decide +kernel
theorem dX7_ended_125 : decode cX7_ended 125 = .ok (.istore 6, 2) := by decide +kernel
theorem dX7_ended_127 : decode cX7_ended 127 = .ok (.aload_n 0, 1) := by decide +kernel
theorem dX7_ended_128 : decode cX7_ended 128 = .ok (.invokevirtual 181, 3) := by decide +kernel
theorem dX7_ended_131 : decode cX7_ended 131 = .ok (.iload 6, 2) := by decide +kernel
theorem dX7_ended_133 : decode cX7_ended 133 = .ok (.ireturn, 1) := by decide +kernel
theorem dX7_undo_0 : decode cX7_undo 0 = .ok (.aload_n 0, 1) := by decide +kernel
theorem dX7_undo_1 : decode cX7_undo 1 = .ok (.iconst 0, 1) := by decide +kernel
theorem dX7_undo_2 : decode cX7_undo 2 = .ok (.putfield 29, 3) := by decide +kernel
theorem dX7_undo_5 : decode cX7_undo 5 = .ok (.aload_n 0, 1) := by decide +kernel
theorem dX7_undo_6 : decode cX7_undo 6 = .ok (.getfield 46, 3) := by decide +kernel
theorem dX7_undo_9 : decode cX7_undo 9 = .ok (.ifCond .ne 6, 3) := by decide +kernel
theorem dX7_undo_12 : decode cX7_undo 12 = .ok (.bipush (-2), 2) := by decide +kernel
theorem dX7_undo_14 : decode cX7_undo 14 = .ok (.ireturn, 1) := by decide +kernel
theorem dX7_undo_15 : decode cX7_undo 15 = .ok (.aload_n 0, 1) := by decide +kernel
theorem dX7_undo_16 : decode cX7_undo 16 = .ok (.dup, 1) := by decide +kernel
theorem dX7_undo_17 : decode cX7_undo 17 = .ok (.getfield 46, 3) := by decide +kernel
theorem dX7_undo_20 : decode cX7_undo 20 = .ok (.iconst 1, 1) := by decide +kernel
theorem dX7_undo_21 : decode cX7_undo 21 = .ok (.isub, 1) := by decide +kernel
theorem dX7_undo_22 : decode cX7_undo 22 = .ok (.putfield 46, 3) := by decide +kernel
theorem dX7_undo_25 : decode cX7_undo 25 = .ok (.iconst 0, 1) := by decide +kernel
theorem dX7_undo_26 : decode cX7_undo 26 = .ok (.istore_n 1, 1) := by decide +kernel
theorem dX7_undo_27 : decode cX7_undo 27 = .ok (.iload_n 1, 1) := by decide +kernel
theorem dX7_undo_28 : decode cX7_undo 28 = .ok (.bipush 72, 2) := by decide +kernel
theorem dX7_undo_30 : decode cX7_undo 30 = .ok (.if_icmp .ge 29, 3) := by decide +kernel
theorem dX7_undo_33 : decode cX7_undo 33 = .ok (.aload_n 0, 1) := by decide +kernel
theorem dX7_undo_34 : decode cX7_undo 34 = .ok (.getfield 7, 3) := by decide +kernel
theorem dX7_undo_37 : decode cX7_undo 37 = .ok (.iload_n 1, 1) := by decide +kernel
theorem dX7_undo_38 : decode cX7_undo 38 = .ok (.aload_n 0, 1) := by decide +kernel
theorem dX7_undo_39 : decode cX7_undo 39 = .ok (.getfield 16, 3) := by decide +kernel
theorem dX7_undo_42 : decode cX7_undo 42 = .ok (.bipush 72, 2) := by decide +kernel
theorem dX7_undo_44 : decode cX7_undo 44 = .ok (.aload_n 0, 1) := by decide +kernel
theorem dX7_undo_45 : decode cX7_undo 45 = .ok (.getfield 46, 3) := by decide +kernel
theorem dX7_undo_48 : decode cX7_undo 48 = .ok (.imul, 1) := by decide +kernel
theorem dX7_undo_49 : decode cX7_undo 49 = .ok (.iload_n 1, 1) := by decide +kernel
theorem dX7_undo_50 : decode cX7_undo 50 = .ok (.iadd, 1) := by decide +kernel
theorem dX7_undo_51 : decode cX7_undo 51 = .ok (.iaload, 1) := by decide +kernel
theorem dX7_undo_52 : decode cX7_undo 52 = .ok (.iastore, 1) := by decide +kernel
theorem dX7_undo_53 : decode cX7_undo 53 = .ok (.iinc 1 1, 3) := by decide +kernel
theorem dX7_undo_56 : decode cX7_undo 56 = .ok (.goto (-29), 3) := by decide +kernel
theorem dX7_undo_59 : decode cX7_undo 59 = .ok (.aload_n 0, 1) := by decide +kernel
theorem dX7_undo_60 : decode cX7_undo 60 = .ok (.iconst 0, 1) := by decide +kernel
theorem dX7_undo_61 : decode cX7_undo 61 = .ok (.putfield 109, 3) := by decide +kernel
theorem dX7_undo_64 : decode cX7_undo 64 = .ok (.aload_n 0, 1) := by decide +kernel
theorem dX7_undo_65 : decode cX7_undo 65 = .ok (.getfield 46, 3) := by decide +kernel
theorem dX7_undo_68 : decode cX7_undo 68 = .ok (.ireturn, 1) := by decide +kernel
theorem dX7_save_0 : decode cX7_save 0 = .ok (.aload_n 0, 1) := by decide +kernel
theorem dX7_save_1 : decode cX7_save 1 = .ok (.iconst 0, 1) := by decide +kernel
theorem dX7_save_2 : decode cX7_save 2 = .ok (.putfield 29, 3) := by decide +kernel
theorem dX7_save_5 : decode cX7_save 5 = .ok (.iconst 0, 1) := by decide +kernel
theorem dX7_save_6 : decode cX7_save 6 = .ok (.istore_n 1, 1) := by decide +kernel
theorem dX7_save_7 : decode cX7_save 7 = .ok (.iload_n 1, 1) := by decide +kernel
theorem dX7_save_8 : decode cX7_save 8 = .ok (.bipush 72, 2) := by decide +kernel
theorem dX7_save_10 : decode cX7_save 10 = .ok (.if_icmp .ge 21, 3) := by decide +kernel
theorem dX7_save_13 : decode cX7_save 13 = .ok (.aload_n 0, 1) := by decide +kernel
theorem dX7_save_14 : decode cX7_save 14 = .ok (.getfield 19, 3) := by decide +kernel
theorem dX7_save_17 : decode cX7_save 17 = .ok (.iload_n 1, 1) := by decide +kernel
theorem dX7_save_18 : decode cX7_save 18 = .ok (.aload_n 0, 1) := by decide +kernel
theorem dX7_save_19 : decode cX7_save 19 = .ok (.getfield 7, 3) := by decide +kernel
theorem dX7_save_22 : decode cX7_save 22 = .ok (.iload_n 1, 1) := by decide +kernel
theorem dX7_save_23 : decode cX7_save 23 = .ok (.iaload, 1) := by decide +kernel
theorem dX7_save_24 : decode cX7_save 24 = .ok (.iastore, 1) := by decide +kernel
theorem dX7_save_25 : decode cX7_save 25 = .ok (.iinc 1 1, 3) := by decide +kernel
theorem dX7_save_28 : decode cX7_save 28 = .ok (.goto (-21), 3) := by decide +kernel
theorem dX7_save_31 : decode cX7_save 31 = .ok (.aload_n 0, 1) := by decide +kernel
theorem dX7_save_32 : decode cX7_save 32 = .ok (.iconst 1, 1) := by decide +kernel
theorem dX7_save_33 : decode cX7_save 33 = .ok (.putfield 184, 3) := by decide +kernel
theorem dX7_save_36 : decode cX7_save 36 = .ok (.aload_n 0, 1) := by decide +kernel
theorem dX7_save_37 : decode cX7_save 37 = .ok (.getfield 7, 3) := by decide +kernel
theorem dX7_save_40 : decode cX7_save 40 = .ok (.bipush 18, 2) := by decide +kernel
theorem dX7_save_42 : decode cX7_save 42 = .ok (.iaload, 1) := by decide +kernel
theorem dX7_save_43 : decode cX7_save 43 = .ok (.ireturn, 1) := by decide +kernel
theorem dX7_restore_0 : decode cX7_restore 0 = .ok (.aload_n 0, 1) := by decide +kernel
theorem dX7_restore_1 : decode cX7_restore 1 = .ok (.iconst 0, 1) := by decide +kernel
theorem dX7_restore_2 : decode cX7_restore 2 = .ok (.putfield 29, 3) := by decide +kernel
theorem dX7_restore_5 : decode cX7_restore 5 = .ok (.aload_n 0, 1) := by decide +kernel
theorem dX7_restore_6 : decode cX7_restore 6 = .ok (.getfield 184, 3) := by decide +kernel
theorem dX7_restore_9 : decode cX7_restore 9 = .ok (.ifCond .ne 6, 3) := by decide +kernel
theorem dX7_restore_12 : decode cX7_restore 12 = .ok (.bipush (-2), 2) := by decide +kernel
theorem dX7_restore_14 : decode cX7_restore 14 = .ok (.ireturn, 1) := by decide +kernel
theorem dX7_restore_15 : decode cX7_restore 15 = .ok (.aload_n 0, 1) := by decide +kernel
theorem dX7_restore_16 : decode cX7_restore 16 = .ok (.invokevirtual 144, 3) := by decide +kernel
theorem dX7_restore_19 : decode cX7_restore 19 = .ok (.iconst 0, 1) := by decide +kernel
theorem dX7_restore_20 : decode cX7_restore 20 = .ok (.istore_n 1, 1) := by decide +kernel
theorem dX7_restore_21 : decode cX7_restore 21 = .ok (.iload_n 1, 1) := by decide +kernel
theorem dX7_restore_22 : decode cX7_restore 22 = .ok (.bipush 72, 2) := by decide +kernel
theorem dX7_restore_24 : decode cX7_restore 24 = .ok (.if_icmp .ge 21, 3) := by decide +kernel
theorem dX7_restore_27 : decode cX7_restore 27 = .ok (.aload_n 0, 1) := by decide +kernel
theorem dX7_restore_28 : decode cX7_restore 28 = .ok (.getfield 7, 3) := by decide +kernel
theorem dX7_restore_31 : decode cX7_restore 31 = .ok (.iload_n 1, 1) := by decide +kernel
theorem dX7_restore_32 : decode cX7_restore 32 = .ok (.aload_n 0, 1) := by decide +kernel
theorem dX7_restore_33 : decode cX7_restore 33 = .ok (.getfield 19, 3) := by decide +kernel
theorem dX7_restore_36 : decode cX7_restore 36 = .ok (.iload_n 1, 1) := by decide +kernel
theorem dX7_restore_37 : decode cX7_restore 37 = .ok (.iaload, 1) := by decide +kernel
theorem dX7_restore_38 : decode cX7_restore 38 = .ok (.iastore, 1) := by decide +kernel
theorem dX7_restore_39 : decode cX7_restore 39 = .ok (.iinc 1 1, 3) := by decide +kernel
theorem dX7_restore_42 : decode cX7_restore 42 = .ok (.goto (-21), 3) := by decide +kernel
theorem dX7_restore_45 : decode cX7_restore 45 = .ok (.aload_n 0, 1) := by decide +kernel
theorem dX7_restore_46 : decode cX7_restore 46 = .ok (.iconst 0, 1) := by decide +kernel
theorem dX7_restore_47 : decode cX7_restore 47 = .ok (.putfield 109, 3) := by decide +kernel
theorem dX7_restore_50 : decode cX7_restore 50 = .ok (.aload_n 0, 1) := by decide +kernel
theorem dX7_restore_51 : decode cX7_restore 51 = .ok (.getfield 7, 3) := by decide +kernel
theorem dX7_restore_54 : decode cX7_restore 54 = .ok (.bipush 18, 2) := by decide +kernel
theorem dX7_restore_56 : decode cX7_restore 56 = .ok (.iaload, 1) := by decide +kernel
theorem dX7_restore_57 : decode cX7_restore 57 = .ok (.ireturn, 1) := by decide +kernel
theorem dJ6_bitCount_0f7a4_0 : decode cJ6_bitCount_0f7a4 0 = .ok (.iload_n 0, 1) := by decide +kernel
theorem dJ6_bitCount_0f7a4_1 : decode cJ6_bitCount_0f7a4 1 = .ok (.iload_n 0, 1) := by decide +kernel
theorem dJ6_bitCount_0f7a4_2 : decode cJ6_bitCount_0f7a4 2 = .ok (.iconst 1, 1) := by decide +kernel
theorem dJ6_bitCount_0f7a4_3 : decode cJ6_bitCount_0f7a4 3 = .ok (.iushr, 1) := by decide +kernel
theorem dJ6_bitCount_0f7a4_4 : decode cJ6_bitCount_0f7a4 4 = .ok (.ldc_w 265, 3) := by decide +kernel
theorem dJ6_bitCount_0f7a4_7 : decode cJ6_bitCount_0f7a4 7 = .ok (.iand, 1) := by decide +kernel
theorem dJ6_bitCount_0f7a4_8 : decode cJ6_bitCount_0f7a4 8 = .ok (.isub, 1) := by decide +kernel
theorem dJ6_bitCount_0f7a4_9 : decode cJ6_bitCount_0f7a4 9 = .ok (.istore_n 0, 1) := by decide +kernel
theorem dJ6_bitCount_0f7a4_10 : decode cJ6_bitCount_0f7a4 10 = .ok (.iload_n 0, 1) := by decide +kernel
theorem dJ6_bitCount_0f7a4_11 : decode cJ6_bitCount_0f7a4 11 = .ok (.ldc_w 266, 3) := by decide +kernel
theorem dJ6_bitCount_0f7a4_14 : decode cJ6_bitCount_0f7a4 14 = .ok (.iand, 1) := by decide +kernel
theorem dJ6_bitCount_0f7a4_15 : decode cJ6_bitCount_0f7a4 15 = .ok (.iload_n 0, 1) := by decide +kernel
theorem dJ6_bitCount_0f7a4_16 : decode cJ6_bitCount_0f7a4 16 = .ok (.iconst 2, 1) := by decide +kernel
theorem dJ6_bitCount_0f7a4_17 : decode cJ6_bitCount_0f7a4 17 = .ok (.iushr, 1) := by decide +kernel
theorem dJ6_bitCount_0f7a4_18 : decode cJ6_bitCount_0f7a4 18 = .ok (.ldc_w 266, 3) := by decide +kernel
theorem dJ6_bitCount_0f7a4_21 : decode cJ6_bitCount_0f7a4 21 = .ok (.iand, 1) := by decide +kernel
theorem dJ6_bitCount_0f7a4_22 : decode cJ6_bitCount_0f7a4 22 = .ok (.iadd, 1) := by decide +kernel
theorem dJ6_bitCount_0f7a4_23 : decode cJ6_bitCount_0f7a4 23 = .ok (.istore_n 0, 1) := by decide +kernel
theorem dJ6_bitCount_0f7a4_24 : decode cJ6_bitCount_0f7a4 24 = .ok (.iload_n 0, 1) := by decide +kernel
theorem dJ6_bitCount_0f7a4_25 : decode cJ6_bitCount_0f7a4 25 = .ok (.iload_n 0, 1) := by decide +kernel
theorem dJ6_bitCount_0f7a4_26 : decode cJ6_bitCount_0f7a4 26 = .ok (.iconst 4, 1) := by decide +kernel
theorem dJ6_bitCount_0f7a4_27 : decode cJ6_bitCount_0f7a4 27 = .ok (.iushr, 1) := by decide +kernel
theorem dJ6_bitCount_0f7a4_28 : decode cJ6_bitCount_0f7a4 28 = .ok (.iadd, 1) := by decide +kernel
theorem dJ6_bitCount_0f7a4_29 : decode cJ6_bitCount_0f7a4 29 = .ok (.ldc_w 267, 3) := by decide +kernel
theorem dJ6_bitCount_0f7a4_32 : decode cJ6_bitCount_0f7a4 32 = .ok (.iand, 1) := by decide +kernel
theorem dJ6_bitCount_0f7a4_33 : decode cJ6_bitCount_0f7a4 33 = .ok (.istore_n 0, 1) := by decide +kernel
theorem dJ6_bitCount_0f7a4_34 : decode cJ6_bitCount_0f7a4 34 = .ok (.iload_n 0, 1) := by decide +kernel
theorem dJ6_bitCount_0f7a4_35 : decode cJ6_bitCount_0f7a4 35 = .ok (.iload_n 0, 1) := by decide +kernel
theorem dJ6_bitCount_0f7a4_36 : decode cJ6_bitCount_0f7a4 36 = .ok (.bipush 8, 2) := by decide +kernel
theorem dJ6_bitCount_0f7a4_38 : decode cJ6_bitCount_0f7a4 38 = .ok (.iushr, 1) := by decide +kernel
theorem dJ6_bitCount_0f7a4_39 : decode cJ6_bitCount_0f7a4 39 = .ok (.iadd, 1) := by decide +kernel
theorem dJ6_bitCount_0f7a4_40 : decode cJ6_bitCount_0f7a4 40 = .ok (.istore_n 0, 1) := by decide +kernel
theorem dJ6_bitCount_0f7a4_41 : decode cJ6_bitCount_0f7a4 41 = .ok (.iload_n 0, 1) := by decide +kernel
theorem dJ6_bitCount_0f7a4_42 : decode cJ6_bitCount_0f7a4 42 = .ok (.iload_n 0, 1) := by decide +kernel
theorem dJ6_bitCount_0f7a4_43 : decode cJ6_bitCount_0f7a4 43 = .ok (.bipush 16, 2) := by decide +kernel
theorem dJ6_bitCount_0f7a4_45 : decode cJ6_bitCount_0f7a4 45 = .ok (.iushr, 1) := by decide +kernel
theorem dJ6_bitCount_0f7a4_46 : decode cJ6_bitCount_0f7a4 46 = .ok (.iadd, 1) := by decide +kernel
theorem dJ6_bitCount_0f7a4_47 : decode cJ6_bitCount_0f7a4 47 = .ok (.istore_n 0, 1) := by decide +kernel
theorem dJ6_bitCount_0f7a4_48 : decode cJ6_bitCount_0f7a4 48 = .ok (.iload_n 0, 1) := by decide +kernel
theorem dJ6_bitCount_0f7a4_49 : decode cJ6_bitCount_0f7a4 49 = .ok (.bipush 63, 2) := by decide +kernel
theorem dJ6_bitCount_0f7a4_51 : decode cJ6_bitCount_0f7a4 51 = .ok (.iand, 1) := by decide +kernel
theorem dJ6_bitCount_0f7a4_52 : decode cJ6_bitCount_0f7a4 52 = .ok (.ireturn, 1) := by decide +kernel
theorem dJ9_floorMod_7cf53_0 : decode cJ9_floorMod_7cf53 0 = .ok (.iload_n 0, 1) := by decide +kernel
theorem dJ9_floorMod_7cf53_1 : decode cJ9_floorMod_7cf53 1 = .ok (.iload_n 1, 1) := by decide +kernel
theorem dJ9_floorMod_7cf53_2 : decode cJ9_floorMod_7cf53 2 = .ok (.irem, 1) := by decide +kernel
theorem dJ9_floorMod_7cf53_3 : decode cJ9_floorMod_7cf53 3 = .ok (.istore_n 2, 1) := by decide +kernel
theorem dJ9_floorMod_7cf53_4 : decode cJ9_floorMod_7cf53 4 = .ok (.iload_n 0, 1) := by decide +kernel
theorem dJ9_floorMod_7cf53_5 : decode cJ9_floorMod_7cf53 5 = .ok (.iload_n 1, 1) := by decide +kernel
theorem dJ9_floorMod_7cf53_6 : decode cJ9_floorMod_7cf53 6 = .ok (.ixor, 1) := by decide +kernel
theorem dJ9_floorMod_7cf53_7 : decode cJ9_floorMod_7cf53 7 = .ok (.ifCond .ge 11, 3) := by decide +kernel
theorem dJ9_floorMod_7cf53_10 : decode cJ9_floorMod_7cf53 10 = .ok (.iload_n 2, 1) := by decide +kernel
theorem dJ9_floorMod_7cf53_11 : decode cJ9_floorMod_7cf53 11 = .ok (.ifCond .eq 7, 3) := by decide +kernel
theorem dJ9_floorMod_7cf53_14 : decode cJ9_floorMod_7cf53 14 = .ok (.iload_n 2, 1) := by decide +kernel
theorem dJ9_floorMod_7cf53_15 : decode cJ9_floorMod_7cf53 15 = .ok (.iload_n 1, 1) := by decide +kernel
theorem dJ9_floorMod_7cf53_16 : decode cJ9_floorMod_7cf53 16 = .ok (.iadd, 1) := by decide +kernel
theorem dJ9_floorMod_7cf53_17 : decode cJ9_floorMod_7cf53 17 = .ok (.ireturn, 1) := by decide +kernel
theorem dJ9_floorMod_7cf53_18 : decode cJ9_floorMod_7cf53 18 = .ok (.iload_n 2, 1) := by decide +kernel
theorem dJ9_floorMod_7cf53_19 : decode cJ9_floorMod_7cf53 19 = .ok (.ireturn, 1) := by decide +kernel
theorem dJ9_max_7cf53_0 : decode cJ9_max_7cf53 0 = .ok (.iload_n 0, 1) := by decide +kernel
theorem dJ9_max_7cf53_1 : decode cJ9_max_7cf53 1 = .ok (.iload_n 1, 1) := by decide +kernel
theorem dJ9_max_7cf53_2 : decode cJ9_max_7cf53 2 = .ok (.if_icmp .lt 7, 3) := by decide +kernel
theorem dJ9_max_7cf53_5 : decode cJ9_max_7cf53 5 = .ok (.iload_n 0, 1) := by decide +kernel
theorem dJ9_max_7cf53_6 : decode cJ9_max_7cf53 6 = .ok (.goto 4, 3) := by decide +kernel
theorem dJ9_max_7cf53_9 : decode cJ9_max_7cf53 9 = .ok (.iload_n 1, 1) := by decide +kernel
theorem dJ9_max_7cf53_10 : decode cJ9_max_7cf53 10 = .ok (.ireturn, 1) := by decide +kernel
theorem dJ9_min_7cf53_0 : decode cJ9_min_7cf53 0 = .ok (.iload_n 0, 1) := by decide +kernel
theorem dJ9_min_7cf53_1 : decode cJ9_min_7cf53 1 = .ok (.iload_n 1, 1) := by decide +kernel
theorem dJ9_min_7cf53_2 : decode cJ9_min_7cf53 2 = .ok (.if_icmp .gt 7, 3) := by decide +kernel
theorem dJ9_min_7cf53_5 : decode cJ9_min_7cf53 5 = .ok (.iload_n 0, 1) := by decide +kernel
theorem dJ9_min_7cf53_6 : decode cJ9_min_7cf53 6 = .ok (.goto 4, 3) := by decide +kernel
theorem dJ9_min_7cf53_9 : decode cJ9_min_7cf53 9 = .ok (.iload_n 1, 1) := by decide +kernel
theorem dJ9_min_7cf53_10 : decode cJ9_min_7cf53 10 = .ok (.ireturn, 1) := by decide +kernel
theorem dL_law_0 : decode cL_law 0 = .ok (.new 7, 3) := by decide +kernel
theorem dL_law_3 : decode cL_law 3 = .ok (.dup, 1) := by decide +kernel
theorem dL_law_4 : decode cL_law 4 = .ok (.invokespecial 9, 3) := by decide +kernel
theorem dL_law_7 : decode cL_law 7 = .ok (.astore_n 1, 1) := by decide +kernel
theorem dL_law_8 : decode cL_law 8 = .ok (.new 10, 3) := by decide +kernel
theorem dL_law_11 : decode cL_law 11 = .ok (.dup, 1) := by decide +kernel
theorem dL_law_12 : decode cL_law 12 = .ok (.invokespecial 12, 3) := by decide +kernel
theorem dL_law_15 : decode cL_law 15 = .ok (.astore_n 2, 1) := by decide +kernel
theorem dL_law_16 : decode cL_law 16 = .ok (.iconst 0, 1) := by decide +kernel
theorem dL_law_17 : decode cL_law 17 = .ok (.istore_n 3, 1) := by decide +kernel
theorem dL_law_18 : decode cL_law 18 = .ok (.iload_n 3, 1) := by decide +kernel
theorem dL_law_19 : decode cL_law 19 = .ok (.aload_n 0, 1) := by decide +kernel
theorem dL_law_20 : decode cL_law 20 = .ok (.arraylength, 1) := by decide +kernel
theorem dL_law_21 : decode cL_law 21 = .ok (.iconst 4, 1) := by decide +kernel
theorem dL_law_22 : decode cL_law 22 = .ok (.isub, 1) := by decide +kernel
theorem dL_law_23 : decode cL_law 23 = .ok (.if_icmp .gt 654, 3) := by decide +kernel
theorem dL_law_26 : decode cL_law 26 = .ok (.aload_n 0, 1) := by decide +kernel
theorem dL_law_27 : decode cL_law 27 = .ok (.iload_n 3, 1) := by decide +kernel
theorem dL_law_28 : decode cL_law 28 = .ok (.iaload, 1) := by decide +kernel
theorem dL_law_29 : decode cL_law 29 = .ok (.bipush 31, 2) := by decide +kernel
theorem dL_law_31 : decode cL_law 31 = .ok (.iand, 1) := by decide +kernel
theorem dL_law_32 : decode cL_law 32 = .ok (.tableswitch 639 0 24 #[116, 139, 152, 165, 178, 191, 204, 237, 260, 273, 296, 309, 322, 345, 378, 411, 434, 457, 480, 493, 516, 557, 600, 613, 626], 116) := by decide +kernel
theorem dL_law_148 : decode cL_law 148 = .ok (.aload_n 1, 1) := by decide +kernel
theorem dL_law_149 : decode cL_law 149 = .ok (.aload_n 0, 1) := by decide +kernel
theorem dL_law_150 : decode cL_law 150 = .ok (.iload_n 3, 1) := by decide +kernel
theorem dL_law_151 : decode cL_law 151 = .ok (.iconst 1, 1) := by decide +kernel
theorem dL_law_152 : decode cL_law 152 = .ok (.iadd, 1) := by decide +kernel
theorem dL_law_153 : decode cL_law 153 = .ok (.iaload, 1) := by decide +kernel
theorem dL_law_154 : decode cL_law 154 = .ok (.invokevirtual 13, 3) := by decide +kernel
theorem dL_law_157 : decode cL_law 157 = .ok (.aload_n 2, 1) := by decide +kernel
theorem dL_law_158 : decode cL_law 158 = .ok (.aload_n 0, 1) := by decide +kernel
theorem dL_law_159 : decode cL_law 159 = .ok (.iload_n 3, 1) := by decide +kernel
theorem dL_law_160 : decode cL_law 160 = .ok (.iconst 1, 1) := by decide +kernel
theorem dL_law_161 : decode cL_law 161 = .ok (.iadd, 1) := by decide +kernel
theorem dL_law_162 : decode cL_law 162 = .ok (.iaload, 1) := by decide +kernel
theorem dL_law_163 : decode cL_law 163 = .ok (.invokevirtual 17, 3) := by decide +kernel
theorem dL_law_166 : decode cL_law 166 = .ok (.if_icmp .eq 505, 3) := by decide +kernel
theorem dL_law_169 : decode cL_law 169 = .ok (.iconst 0, 1) := by decide +kernel
theorem dL_law_170 : decode cL_law 170 = .ok (.ireturn, 1) := by decide +kernel
theorem dL_law_171 : decode cL_law 171 = .ok (.aload_n 1, 1) := by decide +kernel
theorem dL_law_172 : decode cL_law 172 = .ok (.invokevirtual 18, 3) := by decide +kernel
theorem dL_law_175 : decode cL_law 175 = .ok (.aload_n 2, 1) := by decide +kernel
theorem dL_law_176 : decode cL_law 176 = .ok (.invokevirtual 22, 3) := by decide +kernel
theorem dL_law_179 : decode cL_law 179 = .ok (.if_icmp .eq 492, 3) := by decide +kernel
theorem dL_law_182 : decode cL_law 182 = .ok (.iconst 0, 1) := by decide +kernel
theorem dL_law_183 : decode cL_law 183 = .ok (.ireturn, 1) := by decide +kernel
theorem dL_law_184 : decode cL_law 184 = .ok (.aload_n 1, 1) := by decide +kernel
theorem dL_law_185 : decode cL_law 185 = .ok (.invokevirtual 23, 3) := by decide +kernel
theorem dL_law_188 : decode cL_law 188 = .ok (.aload_n 2, 1) := by decide +kernel
theorem dL_law_189 : decode cL_law 189 = .ok (.invokevirtual 26, 3) := by decide +kernel
theorem dL_law_192 : decode cL_law 192 = .ok (.if_icmp .eq 479, 3) := by decide +kernel
theorem dL_law_195 : decode cL_law 195 = .ok (.iconst 0, 1) := by decide +kernel
theorem dL_law_196 : decode cL_law 196 = .ok (.ireturn, 1) := by decide +kernel
theorem dL_law_197 : decode cL_law 197 = .ok (.aload_n 1, 1) := by decide +kernel
theorem dL_law_198 : decode cL_law 198 = .ok (.invokevirtual 27, 3) := by decide +kernel
theorem dL_law_201 : decode cL_law 201 = .ok (.aload_n 2, 1) := by decide +kernel
theorem dL_law_202 : decode cL_law 202 = .ok (.invokevirtual 30, 3) := by decide +kernel
theorem dL_law_205 : decode cL_law 205 = .ok (.if_icmp .eq 466, 3) := by decide +kernel
theorem dL_law_208 : decode cL_law 208 = .ok (.iconst 0, 1) := by decide +kernel
theorem dL_law_209 : decode cL_law 209 = .ok (.ireturn, 1) := by decide +kernel
theorem dL_law_210 : decode cL_law 210 = .ok (.aload_n 1, 1) := by decide +kernel
theorem dL_law_211 : decode cL_law 211 = .ok (.invokevirtual 31, 3) := by decide +kernel
theorem dL_law_214 : decode cL_law 214 = .ok (.aload_n 2, 1) := by decide +kernel
theorem dL_law_215 : decode cL_law 215 = .ok (.invokevirtual 34, 3) := by decide +kernel
theorem dL_law_218 : decode cL_law 218 = .ok (.if_icmp .eq 453, 3) := by decide +kernel
theorem dL_law_221 : decode cL_law 221 = .ok (.iconst 0, 1) := by decide +kernel
theorem dL_law_222 : decode cL_law 222 = .ok (.ireturn, 1) := by decide +kernel
theorem dL_law_223 : decode cL_law 223 = .ok (.aload_n 1, 1) := by decide +kernel
theorem dL_law_224 : decode cL_law 224 = .ok (.invokevirtual 35, 3) := by decide +kernel
theorem dL_law_227 : decode cL_law 227 = .ok (.aload_n 2, 1) := by decide +kernel
theorem dL_law_228 : decode cL_law 228 = .ok (.invokevirtual 38, 3) := by decide +kernel
theorem dL_law_231 : decode cL_law 231 = .ok (.if_icmp .eq 440, 3) := by decide +kernel
theorem dL_law_234 : decode cL_law 234 = .ok (.iconst 0, 1) := by decide +kernel
theorem dL_law_235 : decode cL_law 235 = .ok (.ireturn, 1) := by decide +kernel
theorem dL_law_236 : decode cL_law 236 = .ok (.aload_n 1, 1) := by decide +kernel
theorem dL_law_237 : decode cL_law 237 = .ok (.aload_n 0, 1) := by decide +kernel
theorem dL_law_238 : decode cL_law 238 = .ok (.iload_n 3, 1) := by decide +kernel
theorem dL_law_239 : decode cL_law 239 = .ok (.iconst 1, 1) := by decide +kernel
theorem dL_law_240 : decode cL_law 240 = .ok (.iadd, 1) := by decide +kernel
theorem dL_law_241 : decode cL_law 241 = .ok (.iaload, 1) := by decide +kernel
theorem dL_law_242 : decode cL_law 242 = .ok (.aload_n 0, 1) := by decide +kernel
theorem dL_law_243 : decode cL_law 243 = .ok (.iload_n 3, 1) := by decide +kernel
theorem dL_law_244 : decode cL_law 244 = .ok (.iconst 2, 1) := by decide +kernel
theorem dL_law_245 : decode cL_law 245 = .ok (.iadd, 1) := by decide +kernel
theorem dL_law_246 : decode cL_law 246 = .ok (.iaload, 1) := by decide +kernel
theorem dL_law_247 : decode cL_law 247 = .ok (.invokevirtual 39, 3) := by decide +kernel
theorem dL_law_250 : decode cL_law 250 = .ok (.aload_n 2, 1) := by decide +kernel
theorem dL_law_251 : decode cL_law 251 = .ok (.aload_n 0, 1) := by decide +kernel
theorem dL_law_252 : decode cL_law 252 = .ok (.iload_n 3, 1) := by decide +kernel
theorem dL_law_253 : decode cL_law 253 = .ok (.iconst 1, 1) := by decide +kernel
theorem dL_law_254 : decode cL_law 254 = .ok (.iadd, 1) := by decide +kernel
theorem dL_law_255 : decode cL_law 255 = .ok (.iaload, 1) := by decide +kernel
theorem dL_law_256 : decode cL_law 256 = .ok (.aload_n 0, 1) := by decide +kernel
theorem dL_law_257 : decode cL_law 257 = .ok (.iload_n 3, 1) := by decide +kernel
theorem dL_law_258 : decode cL_law 258 = .ok (.iconst 2, 1) := by decide +kernel
theorem dL_law_259 : decode cL_law 259 = .ok (.iadd, 1) := by decide +kernel
theorem dL_law_260 : decode cL_law 260 = .ok (.iaload, 1) := by decide +kernel
theorem dL_law_261 : decode cL_law 261 = .ok (.invokevirtual 43, 3) := by decide +kernel
theorem dL_law_264 : decode cL_law 264 = .ok (.if_icmp .eq 407, 3) := by decide +kernel
theorem dL_law_267 : decode cL_law 267 = .ok (.iconst 0, 1) := by decide +kernel
theorem dL_law_268 : decode cL_law 268 = .ok (.ireturn, 1) := by decide +kernel
theorem dL_law_269 : decode cL_law 269 = .ok (.aload_n 1, 1) := by decide +kernel
theorem dL_law_270 : decode cL_law 270 = .ok (.aload_n 0, 1) := by decide +kernel
theorem dL_law_271 : decode cL_law 271 = .ok (.iload_n 3, 1) := by decide +kernel
theorem dL_law_272 : decode cL_law 272 = .ok (.iconst 1, 1) := by decide +kernel
theorem dL_law_273 : decode cL_law 273 = .ok (.iadd, 1) := by decide +kernel
theorem dL_law_274 : decode cL_law 274 = .ok (.iaload, 1) := by decide +kernel
theorem dL_law_275 : decode cL_law 275 = .ok (.invokevirtual 44, 3) := by decide +kernel
theorem dL_law_278 : decode cL_law 278 = .ok (.aload_n 2, 1) := by decide +kernel
theorem dL_law_279 : decode cL_law 279 = .ok (.aload_n 0, 1) := by decide +kernel
theorem dL_law_280 : decode cL_law 280 = .ok (.iload_n 3, 1) := by decide +kernel
theorem dL_law_281 : decode cL_law 281 = .ok (.iconst 1, 1) := by decide +kernel
theorem dL_law_282 : decode cL_law 282 = .ok (.iadd, 1) := by decide +kernel
theorem dL_law_283 : decode cL_law 283 = .ok (.iaload, 1) := by decide +kernel
theorem dL_law_284 : decode cL_law 284 = .ok (.invokevirtual 47, 3) := by decide +kernel
theorem dL_law_287 : decode cL_law 287 = .ok (.if_icmp .eq 384, 3) := by decide +kernel
theorem dL_law_290 : decode cL_law 290 = .ok (.iconst 0, 1) := by decide +kernel
theorem dL_law_291 : decode cL_law 291 = .ok (.ireturn, 1) := by decide +kernel
theorem dL_law_292 : decode cL_law 292 = .ok (.aload_n 1, 1) := by decide +kernel
theorem dL_law_293 : decode cL_law 293 = .ok (.invokevirtual 48, 3) := by decide +kernel
theorem dL_law_296 : decode cL_law 296 = .ok (.aload_n 2, 1) := by decide +kernel
theorem dL_law_297 : decode cL_law 297 = .ok (.invokevirtual 51, 3) := by decide +kernel
theorem dL_law_300 : decode cL_law 300 = .ok (.if_icmp .eq 371, 3) := by decide +kernel
theorem dL_law_303 : decode cL_law 303 = .ok (.iconst 0, 1) := by decide +kernel
theorem dL_law_304 : decode cL_law 304 = .ok (.ireturn, 1) := by decide +kernel
theorem dL_law_305 : decode cL_law 305 = .ok (.aload_n 1, 1) := by decide +kernel
theorem dL_law_306 : decode cL_law 306 = .ok (.aload_n 0, 1) := by decide +kernel
theorem dL_law_307 : decode cL_law 307 = .ok (.iload_n 3, 1) := by decide +kernel
theorem dL_law_308 : decode cL_law 308 = .ok (.iconst 1, 1) := by decide +kernel
theorem dL_law_309 : decode cL_law 309 = .ok (.iadd, 1) := by decide +kernel
theorem dL_law_310 : decode cL_law 310 = .ok (.iaload, 1) := by decide +kernel
theorem dL_law_311 : decode cL_law 311 = .ok (.invokevirtual 52, 3) := by decide +kernel
theorem dL_law_314 : decode cL_law 314 = .ok (.aload_n 2, 1) := by decide +kernel
theorem dL_law_315 : decode cL_law 315 = .ok (.aload_n 0, 1) := by decide +kernel
theorem dL_law_316 : decode cL_law 316 = .ok (.iload_n 3, 1) := by decide +kernel
theorem dL_law_317 : decode cL_law 317 = .ok (.iconst 1, 1) := by decide +kernel
theorem dL_law_318 : decode cL_law 318 = .ok (.iadd, 1) := by decide +kernel
theorem dL_law_319 : decode cL_law 319 = .ok (.iaload, 1) := by decide +kernel
theorem dL_law_320 : decode cL_law 320 = .ok (.invokevirtual 55, 3) := by decide +kernel
theorem dL_law_323 : decode cL_law 323 = .ok (.if_icmp .eq 348, 3) := by decide +kernel
theorem dL_law_326 : decode cL_law 326 = .ok (.iconst 0, 1) := by decide +kernel
theorem dL_law_327 : decode cL_law 327 = .ok (.ireturn, 1) := by decide +kernel
theorem dL_law_328 : decode cL_law 328 = .ok (.aload_n 1, 1) := by decide +kernel
theorem dL_law_329 : decode cL_law 329 = .ok (.invokevirtual 56, 3) := by decide +kernel
theorem dL_law_332 : decode cL_law 332 = .ok (.aload_n 2, 1) := by decide +kernel
theorem dL_law_333 : decode cL_law 333 = .ok (.invokevirtual 59, 3) := by decide +kernel
theorem dL_law_336 : decode cL_law 336 = .ok (.if_icmp .eq 335, 3) := by decide +kernel
theorem dL_law_339 : decode cL_law 339 = .ok (.iconst 0, 1) := by decide +kernel
theorem dL_law_340 : decode cL_law 340 = .ok (.ireturn, 1) := by decide +kernel
theorem dL_law_341 : decode cL_law 341 = .ok (.aload_n 1, 1) := by decide +kernel
theorem dL_law_342 : decode cL_law 342 = .ok (.invokevirtual 60, 3) := by decide +kernel
theorem dL_law_345 : decode cL_law 345 = .ok (.aload_n 2, 1) := by decide +kernel
theorem dL_law_346 : decode cL_law 346 = .ok (.invokevirtual 63, 3) := by decide +kernel
theorem dL_law_349 : decode cL_law 349 = .ok (.if_icmp .eq 322, 3) := by decide +kernel
theorem dL_law_352 : decode cL_law 352 = .ok (.iconst 0, 1) := by decide +kernel
theorem dL_law_353 : decode cL_law 353 = .ok (.ireturn, 1) := by decide +kernel
theorem dL_law_354 : decode cL_law 354 = .ok (.aload_n 1, 1) := by decide +kernel
theorem dL_law_355 : decode cL_law 355 = .ok (.aload_n 0, 1) := by decide +kernel
theorem dL_law_356 : decode cL_law 356 = .ok (.iload_n 3, 1) := by decide +kernel
theorem dL_law_357 : decode cL_law 357 = .ok (.iconst 1, 1) := by decide +kernel
theorem dL_law_358 : decode cL_law 358 = .ok (.iadd, 1) := by decide +kernel
theorem dL_law_359 : decode cL_law 359 = .ok (.iaload, 1) := by decide +kernel
theorem dL_law_360 : decode cL_law 360 = .ok (.invokevirtual 64, 3) := by decide +kernel
theorem dL_law_363 : decode cL_law 363 = .ok (.aload_n 2, 1) := by decide +kernel
theorem dL_law_364 : decode cL_law 364 = .ok (.aload_n 0, 1) := by decide +kernel
theorem dL_law_365 : decode cL_law 365 = .ok (.iload_n 3, 1) := by decide +kernel
theorem dL_law_366 : decode cL_law 366 = .ok (.iconst 1, 1) := by decide +kernel
theorem dL_law_367 : decode cL_law 367 = .ok (.iadd, 1) := by decide +kernel
theorem dL_law_368 : decode cL_law 368 = .ok (.iaload, 1) := by decide +kernel
theorem dL_law_369 : decode cL_law 369 = .ok (.invokevirtual 67, 3) := by decide +kernel
theorem dL_law_372 : decode cL_law 372 = .ok (.if_icmp .eq 299, 3) := by decide +kernel
theorem dL_law_375 : decode cL_law 375 = .ok (.iconst 0, 1) := by decide +kernel
theorem dL_law_376 : decode cL_law 376 = .ok (.ireturn, 1) := by decide +kernel
theorem dL_law_377 : decode cL_law 377 = .ok (.aload_n 1, 1) := by decide +kernel
theorem dL_law_378 : decode cL_law 378 = .ok (.aload_n 0, 1) := by decide +kernel
theorem dL_law_379 : decode cL_law 379 = .ok (.iload_n 3, 1) := by decide +kernel
theorem dL_law_380 : decode cL_law 380 = .ok (.iconst 1, 1) := by decide +kernel
theorem dL_law_381 : decode cL_law 381 = .ok (.iadd, 1) := by decide +kernel
theorem dL_law_382 : decode cL_law 382 = .ok (.iaload, 1) := by decide +kernel
theorem dL_law_383 : decode cL_law 383 = .ok (.aload_n 0, 1) := by decide +kernel
theorem dL_law_384 : decode cL_law 384 = .ok (.iload_n 3, 1) := by decide +kernel
theorem dL_law_385 : decode cL_law 385 = .ok (.iconst 2, 1) := by decide +kernel
theorem dL_law_386 : decode cL_law 386 = .ok (.iadd, 1) := by decide +kernel
theorem dL_law_387 : decode cL_law 387 = .ok (.iaload, 1) := by decide +kernel
theorem dL_law_388 : decode cL_law 388 = .ok (.invokevirtual 68, 3) := by decide +kernel
theorem dL_law_391 : decode cL_law 391 = .ok (.aload_n 2, 1) := by decide +kernel
theorem dL_law_392 : decode cL_law 392 = .ok (.aload_n 0, 1) := by decide +kernel
theorem dL_law_393 : decode cL_law 393 = .ok (.iload_n 3, 1) := by decide +kernel
theorem dL_law_394 : decode cL_law 394 = .ok (.iconst 1, 1) := by decide +kernel
theorem dL_law_395 : decode cL_law 395 = .ok (.iadd, 1) := by decide +kernel
theorem dL_law_396 : decode cL_law 396 = .ok (.iaload, 1) := by decide +kernel
theorem dL_law_397 : decode cL_law 397 = .ok (.aload_n 0, 1) := by decide +kernel
theorem dL_law_398 : decode cL_law 398 = .ok (.iload_n 3, 1) := by decide +kernel
theorem dL_law_399 : decode cL_law 399 = .ok (.iconst 2, 1) := by decide +kernel
theorem dL_law_400 : decode cL_law 400 = .ok (.iadd, 1) := by decide +kernel
theorem dL_law_401 : decode cL_law 401 = .ok (.iaload, 1) := by decide +kernel
theorem dL_law_402 : decode cL_law 402 = .ok (.invokevirtual 71, 3) := by decide +kernel
theorem dL_law_405 : decode cL_law 405 = .ok (.if_icmp .eq 266, 3) := by decide +kernel
theorem dL_law_408 : decode cL_law 408 = .ok (.iconst 0, 1) := by decide +kernel
theorem dL_law_409 : decode cL_law 409 = .ok (.ireturn, 1) := by decide +kernel
theorem dL_law_410 : decode cL_law 410 = .ok (.aload_n 1, 1) := by decide +kernel
theorem dL_law_411 : decode cL_law 411 = .ok (.aload_n 0, 1) := by decide +kernel
theorem dL_law_412 : decode cL_law 412 = .ok (.iload_n 3, 1) := by decide +kernel
theorem dL_law_413 : decode cL_law 413 = .ok (.iconst 1, 1) := by decide +kernel
theorem dL_law_414 : decode cL_law 414 = .ok (.iadd, 1) := by decide +kernel
theorem dL_law_415 : decode cL_law 415 = .ok (.iaload, 1) := by decide +kernel
theorem dL_law_416 : decode cL_law 416 = .ok (.aload_n 0, 1) := by decide +kernel
theorem dL_law_417 : decode cL_law 417 = .ok (.iload_n 3, 1) := by decide +kernel
theorem dL_law_418 : decode cL_law 418 = .ok (.iconst 2, 1) := by decide +kernel
theorem dL_law_419 : decode cL_law 419 = .ok (.iadd, 1) := by decide +kernel
theorem dL_law_420 : decode cL_law 420 = .ok (.iaload, 1) := by decide +kernel
theorem dL_law_421 : decode cL_law 421 = .ok (.invokevirtual 72, 3) := by decide +kernel
theorem dL_law_424 : decode cL_law 424 = .ok (.aload_n 2, 1) := by decide +kernel
theorem dL_law_425 : decode cL_law 425 = .ok (.aload_n 0, 1) := by decide +kernel
theorem dL_law_426 : decode cL_law 426 = .ok (.iload_n 3, 1) := by decide +kernel
theorem dL_law_427 : decode cL_law 427 = .ok (.iconst 1, 1) := by decide +kernel
theorem dL_law_428 : decode cL_law 428 = .ok (.iadd, 1) := by decide +kernel
theorem dL_law_429 : decode cL_law 429 = .ok (.iaload, 1) := by decide +kernel
theorem dL_law_430 : decode cL_law 430 = .ok (.aload_n 0, 1) := by decide +kernel
theorem dL_law_431 : decode cL_law 431 = .ok (.iload_n 3, 1) := by decide +kernel
theorem dL_law_432 : decode cL_law 432 = .ok (.iconst 2, 1) := by decide +kernel
theorem dL_law_433 : decode cL_law 433 = .ok (.iadd, 1) := by decide +kernel
theorem dL_law_434 : decode cL_law 434 = .ok (.iaload, 1) := by decide +kernel
theorem dL_law_435 : decode cL_law 435 = .ok (.invokevirtual 75, 3) := by decide +kernel
theorem dL_law_438 : decode cL_law 438 = .ok (.if_icmp .eq 233, 3) := by decide +kernel
theorem dL_law_441 : decode cL_law 441 = .ok (.iconst 0, 1) := by decide +kernel
theorem dL_law_442 : decode cL_law 442 = .ok (.ireturn, 1) := by decide +kernel
theorem dL_law_443 : decode cL_law 443 = .ok (.aload_n 1, 1) := by decide +kernel
theorem dL_law_444 : decode cL_law 444 = .ok (.aload_n 0, 1) := by decide +kernel
theorem dL_law_445 : decode cL_law 445 = .ok (.iload_n 3, 1) := by decide +kernel
theorem dL_law_446 : decode cL_law 446 = .ok (.iconst 1, 1) := by decide +kernel
theorem dL_law_447 : decode cL_law 447 = .ok (.iadd, 1) := by decide +kernel
theorem dL_law_448 : decode cL_law 448 = .ok (.iaload, 1) := by decide +kernel
theorem dL_law_449 : decode cL_law 449 = .ok (.invokevirtual 76, 3) := by decide +kernel
theorem dL_law_452 : decode cL_law 452 = .ok (.aload_n 2, 1) := by decide +kernel
theorem dL_law_453 : decode cL_law 453 = .ok (.aload_n 0, 1) := by decide +kernel
theorem dL_law_454 : decode cL_law 454 = .ok (.iload_n 3, 1) := by decide +kernel
theorem dL_law_455 : decode cL_law 455 = .ok (.iconst 1, 1) := by decide +kernel
theorem dL_law_456 : decode cL_law 456 = .ok (.iadd, 1) := by decide +kernel
theorem dL_law_457 : decode cL_law 457 = .ok (.iaload, 1) := by decide +kernel
theorem dL_law_458 : decode cL_law 458 = .ok (.invokevirtual 79, 3) := by decide +kernel
theorem dL_law_461 : decode cL_law 461 = .ok (.if_icmp .eq 210, 3) := by decide +kernel
theorem dL_law_464 : decode cL_law 464 = .ok (.iconst 0, 1) := by decide +kernel
theorem dL_law_465 : decode cL_law 465 = .ok (.ireturn, 1) := by decide +kernel
theorem dL_law_466 : decode cL_law 466 = .ok (.aload_n 1, 1) := by decide +kernel
theorem dL_law_467 : decode cL_law 467 = .ok (.aload_n 0, 1) := by decide +kernel
theorem dL_law_468 : decode cL_law 468 = .ok (.iload_n 3, 1) := by decide +kernel
theorem dL_law_469 : decode cL_law 469 = .ok (.iconst 1, 1) := by decide +kernel
theorem dL_law_470 : decode cL_law 470 = .ok (.iadd, 1) := by decide +kernel
theorem dL_law_471 : decode cL_law 471 = .ok (.iaload, 1) := by decide +kernel
theorem dL_law_472 : decode cL_law 472 = .ok (.invokevirtual 80, 3) := by decide +kernel
theorem dL_law_475 : decode cL_law 475 = .ok (.aload_n 2, 1) := by decide +kernel
theorem dL_law_476 : decode cL_law 476 = .ok (.aload_n 0, 1) := by decide +kernel
theorem dL_law_477 : decode cL_law 477 = .ok (.iload_n 3, 1) := by decide +kernel
theorem dL_law_478 : decode cL_law 478 = .ok (.iconst 1, 1) := by decide +kernel
theorem dL_law_479 : decode cL_law 479 = .ok (.iadd, 1) := by decide +kernel
theorem dL_law_480 : decode cL_law 480 = .ok (.iaload, 1) := by decide +kernel
theorem dL_law_481 : decode cL_law 481 = .ok (.invokevirtual 83, 3) := by decide +kernel
theorem dL_law_484 : decode cL_law 484 = .ok (.if_icmp .eq 187, 3) := by decide +kernel
theorem dL_law_487 : decode cL_law 487 = .ok (.iconst 0, 1) := by decide +kernel
theorem dL_law_488 : decode cL_law 488 = .ok (.ireturn, 1) := by decide +kernel
theorem dL_law_489 : decode cL_law 489 = .ok (.aload_n 1, 1) := by decide +kernel
theorem dL_law_490 : decode cL_law 490 = .ok (.aload_n 0, 1) := by decide +kernel
theorem dL_law_491 : decode cL_law 491 = .ok (.iload_n 3, 1) := by decide +kernel
theorem dL_law_492 : decode cL_law 492 = .ok (.iconst 1, 1) := by decide +kernel
theorem dL_law_493 : decode cL_law 493 = .ok (.iadd, 1) := by decide +kernel
theorem dL_law_494 : decode cL_law 494 = .ok (.iaload, 1) := by decide +kernel
theorem dL_law_495 : decode cL_law 495 = .ok (.invokevirtual 84, 3) := by decide +kernel
theorem dL_law_498 : decode cL_law 498 = .ok (.aload_n 2, 1) := by decide +kernel
theorem dL_law_499 : decode cL_law 499 = .ok (.aload_n 0, 1) := by decide +kernel
theorem dL_law_500 : decode cL_law 500 = .ok (.iload_n 3, 1) := by decide +kernel
theorem dL_law_501 : decode cL_law 501 = .ok (.iconst 1, 1) := by decide +kernel
theorem dL_law_502 : decode cL_law 502 = .ok (.iadd, 1) := by decide +kernel
theorem dL_law_503 : decode cL_law 503 = .ok (.iaload, 1) := by decide +kernel
theorem dL_law_504 : decode cL_law 504 = .ok (.invokevirtual 87, 3) := by decide +kernel
theorem dL_law_507 : decode cL_law 507 = .ok (.if_icmp .eq 164, 3) := by decide +kernel
theorem dL_law_510 : decode cL_law 510 = .ok (.iconst 0, 1) := by decide +kernel
theorem dL_law_511 : decode cL_law 511 = .ok (.ireturn, 1) := by decide +kernel
theorem dL_law_512 : decode cL_law 512 = .ok (.aload_n 1, 1) := by decide +kernel
theorem dL_law_513 : decode cL_law 513 = .ok (.invokevirtual 88, 3) := by decide +kernel
theorem dL_law_516 : decode cL_law 516 = .ok (.aload_n 2, 1) := by decide +kernel
theorem dL_law_517 : decode cL_law 517 = .ok (.invokevirtual 91, 3) := by decide +kernel
theorem dL_law_520 : decode cL_law 520 = .ok (.if_icmp .eq 151, 3) := by decide +kernel
theorem dL_law_523 : decode cL_law 523 = .ok (.iconst 0, 1) := by decide +kernel
theorem dL_law_524 : decode cL_law 524 = .ok (.ireturn, 1) := by decide +kernel
theorem dL_law_525 : decode cL_law 525 = .ok (.aload_n 1, 1) := by decide +kernel
theorem dL_law_526 : decode cL_law 526 = .ok (.aload_n 0, 1) := by decide +kernel
theorem dL_law_527 : decode cL_law 527 = .ok (.iload_n 3, 1) := by decide +kernel
theorem dL_law_528 : decode cL_law 528 = .ok (.iconst 1, 1) := by decide +kernel
theorem dL_law_529 : decode cL_law 529 = .ok (.iadd, 1) := by decide +kernel
theorem dL_law_530 : decode cL_law 530 = .ok (.iaload, 1) := by decide +kernel
theorem dL_law_531 : decode cL_law 531 = .ok (.invokevirtual 92, 3) := by decide +kernel
theorem dL_law_534 : decode cL_law 534 = .ok (.aload_n 2, 1) := by decide +kernel
theorem dL_law_535 : decode cL_law 535 = .ok (.aload_n 0, 1) := by decide +kernel
theorem dL_law_536 : decode cL_law 536 = .ok (.iload_n 3, 1) := by decide +kernel
theorem dL_law_537 : decode cL_law 537 = .ok (.iconst 1, 1) := by decide +kernel
theorem dL_law_538 : decode cL_law 538 = .ok (.iadd, 1) := by decide +kernel
theorem dL_law_539 : decode cL_law 539 = .ok (.iaload, 1) := by decide +kernel
theorem dL_law_540 : decode cL_law 540 = .ok (.invokevirtual 95, 3) := by decide +kernel
theorem dL_law_543 : decode cL_law 543 = .ok (.if_icmp .eq 128, 3) := by decide +kernel
theorem dL_law_546 : decode cL_law 546 = .ok (.iconst 0, 1) := by decide +kernel
theorem dL_law_547 : decode cL_law 547 = .ok (.ireturn, 1) := by decide +kernel
theorem dL_law_548 : decode cL_law 548 = .ok (.aload_n 1, 1) := by decide +kernel
theorem dL_law_549 : decode cL_law 549 = .ok (.invokevirtual 96, 3) := by decide +kernel
theorem dL_law_552 : decode cL_law 552 = .ok (.dstore 4, 2) := by decide +kernel
theorem dL_law_554 : decode cL_law 554 = .ok (.aload_n 2, 1) := by decide +kernel
theorem dL_law_555 : decode cL_law 555 = .ok (.invokevirtual 100, 3) := by decide +kernel
theorem dL_law_558 : decode cL_law 558 = .ok (.dstore 6, 2) := by decide +kernel
theorem dL_law_560 : decode cL_law 560 = .ok (.dload 4, 2) := by decide +kernel
theorem dL_law_562 : decode cL_law 562 = .ok (.dload 6, 2) := by decide +kernel
theorem dL_law_564 : decode cL_law 564 = .ok (.dcmp .l, 1) := by decide +kernel
theorem dL_law_565 : decode cL_law 565 = .ok (.ifCond .eq 21, 3) := by decide +kernel
theorem dL_law_568 : decode cL_law 568 = .ok (.dload 4, 2) := by decide +kernel
theorem dL_law_570 : decode cL_law 570 = .ok (.dload 4, 2) := by decide +kernel
theorem dL_law_572 : decode cL_law 572 = .ok (.dcmp .l, 1) := by decide +kernel
theorem dL_law_573 : decode cL_law 573 = .ok (.ifCond .eq 11, 3) := by decide +kernel
theorem dL_law_576 : decode cL_law 576 = .ok (.dload 6, 2) := by decide +kernel
theorem dL_law_578 : decode cL_law 578 = .ok (.dload 6, 2) := by decide +kernel
theorem dL_law_580 : decode cL_law 580 = .ok (.dcmp .l, 1) := by decide +kernel
theorem dL_law_581 : decode cL_law 581 = .ok (.ifCond .ne 5, 3) := by decide +kernel
theorem dL_law_584 : decode cL_law 584 = .ok (.iconst 0, 1) := by decide +kernel
theorem dL_law_585 : decode cL_law 585 = .ok (.ireturn, 1) := by decide +kernel
theorem dL_law_586 : decode cL_law 586 = .ok (.goto 85, 3) := by decide +kernel
theorem dL_law_589 : decode cL_law 589 = .ok (.aload_n 1, 1) := by decide +kernel
theorem dL_law_590 : decode cL_law 590 = .ok (.aload_n 0, 1) := by decide +kernel
theorem dL_law_591 : decode cL_law 591 = .ok (.iload_n 3, 1) := by decide +kernel
theorem dL_law_592 : decode cL_law 592 = .ok (.iconst 1, 1) := by decide +kernel
theorem dL_law_593 : decode cL_law 593 = .ok (.iadd, 1) := by decide +kernel
theorem dL_law_594 : decode cL_law 594 = .ok (.iaload, 1) := by decide +kernel
theorem dL_law_595 : decode cL_law 595 = .ok (.aload_n 0, 1) := by decide +kernel
theorem dL_law_596 : decode cL_law 596 = .ok (.iload_n 3, 1) := by decide +kernel
theorem dL_law_597 : decode cL_law 597 = .ok (.iconst 2, 1) := by decide +kernel
theorem dL_law_598 : decode cL_law 598 = .ok (.iadd, 1) := by decide +kernel

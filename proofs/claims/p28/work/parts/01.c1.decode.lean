theorem dX5_standOf_14 : decode cX5_standOf 14 = .ok (.ifCond .eq 7, 3) := by decide +kernel
theorem dX5_standOf_17 : decode cX5_standOf 17 = .ok (.iconst 2, 1) := by decide +kernel
theorem dX5_standOf_18 : decode cX5_standOf 18 = .ok (.goto 4, 3) := by decide +kernel
theorem dX5_standOf_21 : decode cX5_standOf 21 = .ok (.iconst 0, 1) := by decide +kernel
theorem dX5_standOf_22 : decode cX5_standOf 22 = .ok (.aload_n 2, 1) := by decide +kernel
theorem dX5_standOf_23 : decode cX5_standOf 23 = .ok (.getfield 155, 3) := by decide +kernel
theorem dX5_standOf_26 : decode cX5_standOf 26 = .ok (.ifCond .eq 7, 3) := by decide +kernel
theorem dX5_standOf_29 : decode cX5_standOf 29 = .ok (.iconst 1, 1) := by decide +kernel
theorem dX5_standOf_30 : decode cX5_standOf 30 = .ok (.goto 4, 3) := by decide +kernel
theorem dX5_standOf_33 : decode cX5_standOf 33 = .ok (.iconst 0, 1) := by decide +kernel
theorem dX5_standOf_34 : decode cX5_standOf 34 = .ok (.ior, 1) := by decide +kernel
theorem dX5_standOf_35 : decode cX5_standOf 35 = .ok (.istore_n 3, 1) := by decide +kernel
theorem dX5_standOf_36 : decode cX5_standOf 36 = .ok (.aload_n 1, 1) := by decide +kernel
theorem dX5_standOf_37 : decode cX5_standOf 37 = .ok (.getfield 161, 3) := by decide +kernel
theorem dX5_standOf_40 : decode cX5_standOf 40 = .ok (.bipush 10, 2) := by decide +kernel
theorem dX5_standOf_42 : decode cX5_standOf 42 = .ok (.ishl, 1) := by decide +kernel
theorem dX5_standOf_43 : decode cX5_standOf 43 = .ok (.aload_n 2, 1) := by decide +kernel
theorem dX5_standOf_44 : decode cX5_standOf 44 = .ok (.getfield 161, 3) := by decide +kernel
theorem dX5_standOf_47 : decode cX5_standOf 47 = .ok (.bipush 6, 2) := by decide +kernel
theorem dX5_standOf_49 : decode cX5_standOf 49 = .ok (.ishl, 1) := by decide +kernel
theorem dX5_standOf_50 : decode cX5_standOf 50 = .ok (.ior, 1) := by decide +kernel
theorem dX5_standOf_51 : decode cX5_standOf 51 = .ok (.iload_n 3, 1) := by decide +kernel
theorem dX5_standOf_52 : decode cX5_standOf 52 = .ok (.iconst 4, 1) := by decide +kernel
theorem dX5_standOf_53 : decode cX5_standOf 53 = .ok (.ishl, 1) := by decide +kernel
theorem dX5_standOf_54 : decode cX5_standOf 54 = .ok (.ior, 1) := by decide +kernel
theorem dX5_standOf_55 : decode cX5_standOf 55 = .ok (.aload_n 1, 1) := by decide +kernel
theorem dX5_standOf_56 : decode cX5_standOf 56 = .ok (.getfield 164, 3) := by decide +kernel
theorem dX5_standOf_59 : decode cX5_standOf 59 = .ok (.iconst 2, 1) := by decide +kernel
theorem dX5_standOf_60 : decode cX5_standOf 60 = .ok (.ishl, 1) := by decide +kernel
theorem dX5_standOf_61 : decode cX5_standOf 61 = .ok (.ior, 1) := by decide +kernel
theorem dX5_standOf_62 : decode cX5_standOf 62 = .ok (.aload_n 2, 1) := by decide +kernel
theorem dX5_standOf_63 : decode cX5_standOf 63 = .ok (.getfield 164, 3) := by decide +kernel
theorem dX5_standOf_66 : decode cX5_standOf 66 = .ok (.ior, 1) := by decide +kernel
theorem dX5_standOf_67 : decode cX5_standOf 67 = .ok (.ireturn, 1) := by decide +kernel
theorem dX5_ownLoses_0 : decode cX5_ownLoses 0 = .ok (.iload_n 0, 1) := by decide +kernel
theorem dX5_ownLoses_1 : decode cX5_ownLoses 1 = .ok (.iconst 2, 1) := by decide +kernel
theorem dX5_ownLoses_2 : decode cX5_ownLoses 2 = .ok (.ishr, 1) := by decide +kernel
theorem dX5_ownLoses_3 : decode cX5_ownLoses 3 = .ok (.iconst 3, 1) := by decide +kernel
theorem dX5_ownLoses_4 : decode cX5_ownLoses 4 = .ok (.iand, 1) := by decide +kernel
theorem dX5_ownLoses_5 : decode cX5_ownLoses 5 = .ok (.ireturn, 1) := by decide +kernel
theorem dX5_otherLoses_0 : decode cX5_otherLoses 0 = .ok (.iload_n 0, 1) := by decide +kernel
theorem dX5_otherLoses_1 : decode cX5_otherLoses 1 = .ok (.iconst 3, 1) := by decide +kernel
theorem dX5_otherLoses_2 : decode cX5_otherLoses 2 = .ok (.iand, 1) := by decide +kernel
theorem dX5_otherLoses_3 : decode cX5_otherLoses 3 = .ok (.ireturn, 1) := by decide +kernel
theorem dX6_init_0 : decode cX6_init 0 = .ok (.aload_n 0, 1) := by decide +kernel
theorem dX6_init_1 : decode cX6_init 1 = .ok (.invokespecial 1, 3) := by decide +kernel
theorem dX6_init_4 : decode cX6_init 4 = .ok (.aload_n 0, 1) := by decide +kernel
theorem dX6_init_5 : decode cX6_init 5 = .ok (.new 7, 3) := by decide +kernel
theorem dX6_init_8 : decode cX6_init 8 = .ok (.dup, 1) := by decide +kernel
theorem dX6_init_9 : decode cX6_init 9 = .ok (.invokespecial 9, 3) := by decide +kernel
theorem dX6_init_12 : decode cX6_init 12 = .ok (.putfield 10, 3) := by decide +kernel
theorem dX6_init_15 : decode cX6_init 15 = .ok (.aload_n 0, 1) := by decide +kernel
theorem dX6_init_16 : decode cX6_init 16 = .ok (.new 7, 3) := by decide +kernel
theorem dX6_init_19 : decode cX6_init 19 = .ok (.dup, 1) := by decide +kernel
theorem dX6_init_20 : decode cX6_init 20 = .ok (.invokespecial 9, 3) := by decide +kernel
theorem dX6_init_23 : decode cX6_init 23 = .ok (.putfield 16, 3) := by decide +kernel
theorem dX6_init_26 : decode cX6_init 26 = .ok (.aload_n 0, 1) := by decide +kernel
theorem dX6_init_27 : decode cX6_init 27 = .ok (.new 7, 3) := by decide +kernel
theorem dX6_init_30 : decode cX6_init 30 = .ok (.dup, 1) := by decide +kernel
theorem dX6_init_31 : decode cX6_init 31 = .ok (.invokespecial 9, 3) := by decide +kernel
theorem dX6_init_34 : decode cX6_init 34 = .ok (.putfield 19, 3) := by decide +kernel
theorem dX6_init_37 : decode cX6_init 37 = .ok (.aload_n 0, 1) := by decide +kernel
theorem dX6_init_38 : decode cX6_init 38 = .ok (.new 22, 3) := by decide +kernel
theorem dX6_init_41 : decode cX6_init 41 = .ok (.dup, 1) := by decide +kernel
theorem dX6_init_42 : decode cX6_init 42 = .ok (.invokespecial 24, 3) := by decide +kernel
theorem dX6_init_45 : decode cX6_init 45 = .ok (.putfield 25, 3) := by decide +kernel
theorem dX6_init_48 : decode cX6_init 48 = .ok (.aload_n 0, 1) := by decide +kernel
theorem dX6_init_49 : decode cX6_init 49 = .ok (.new 29, 3) := by decide +kernel
theorem dX6_init_52 : decode cX6_init 52 = .ok (.dup, 1) := by decide +kernel
theorem dX6_init_53 : decode cX6_init 53 = .ok (.invokespecial 31, 3) := by decide +kernel
theorem dX6_init_56 : decode cX6_init 56 = .ok (.putfield 32, 3) := by decide +kernel
theorem dX6_init_59 : decode cX6_init 59 = .ok (.aload_n 0, 1) := by decide +kernel
theorem dX6_init_60 : decode cX6_init 60 = .ok (.new 36, 3) := by decide +kernel
theorem dX6_init_63 : decode cX6_init 63 = .ok (.dup, 1) := by decide +kernel
theorem dX6_init_64 : decode cX6_init 64 = .ok (.invokespecial 38, 3) := by decide +kernel
theorem dX6_init_67 : decode cX6_init 67 = .ok (.putfield 39, 3) := by decide +kernel
theorem dX6_init_70 : decode cX6_init 70 = .ok (.aload_n 0, 1) := by decide +kernel
theorem dX6_init_71 : decode cX6_init 71 = .ok (.iconst 0, 1) := by decide +kernel
theorem dX6_init_72 : decode cX6_init 72 = .ok (.putfield 43, 3) := by decide +kernel
theorem dX6_init_75 : decode cX6_init 75 = .ok (.aload_n 0, 1) := by decide +kernel
theorem dX6_init_76 : decode cX6_init 76 = .ok (.iconst 0, 1) := by decide +kernel
theorem dX6_init_77 : decode cX6_init 77 = .ok (.putfield 47, 3) := by decide +kernel
theorem dX6_init_80 : decode cX6_init 80 = .ok (.aload_n 0, 1) := by decide +kernel
theorem dX6_init_81 : decode cX6_init 81 = .ok (.iconst 0, 1) := by decide +kernel
theorem dX6_init_82 : decode cX6_init 82 = .ok (.putfield 51, 3) := by decide +kernel
theorem dX6_init_85 : decode cX6_init 85 = .ok (.return_, 1) := by decide +kernel
theorem dX6_drive_0 : decode cX6_drive 0 = .ok (.iload_n 1, 1) := by decide +kernel
theorem dX6_drive_1 : decode cX6_drive 1 = .ok (.iconst 1, 1) := by decide +kernel
theorem dX6_drive_2 : decode cX6_drive 2 = .ok (.if_icmp .lt 8, 3) := by decide +kernel
theorem dX6_drive_5 : decode cX6_drive 5 = .ok (.iload_n 1, 1) := by decide +kernel
theorem dX6_drive_6 : decode cX6_drive 6 = .ok (.iconst 4, 1) := by decide +kernel
theorem dX6_drive_7 : decode cX6_drive 7 = .ok (.if_icmp .le 5, 3) := by decide +kernel
theorem dX6_drive_10 : decode cX6_drive 10 = .ok (.iconst (-1), 1) := by decide +kernel
theorem dX6_drive_11 : decode cX6_drive 11 = .ok (.ireturn, 1) := by decide +kernel
theorem dX6_drive_12 : decode cX6_drive 12 = .ok (.aload_n 0, 1) := by decide +kernel
theorem dX6_drive_13 : decode cX6_drive 13 = .ok (.getfield 10, 3) := by decide +kernel
theorem dX6_drive_16 : decode cX6_drive 16 = .ok (.iload_n 1, 1) := by decide +kernel
theorem dX6_drive_17 : decode cX6_drive 17 = .ok (.invokevirtual 54, 3) := by decide +kernel
theorem dX6_drive_20 : decode cX6_drive 20 = .ok (.ifCond .eq 6, 3) := by decide +kernel
theorem dX6_drive_23 : decode cX6_drive 23 = .ok (.bipush (-2), 2) := by decide +kernel
theorem dX6_drive_25 : decode cX6_drive 25 = .ok (.ireturn, 1) := by decide +kernel
theorem dX6_drive_26 : decode cX6_drive 26 = .ok (.aload_n 0, 1) := by decide +kernel
theorem dX6_drive_27 : decode cX6_drive 27 = .ok (.getfield 10, 3) := by decide +kernel
theorem dX6_drive_30 : decode cX6_drive 30 = .ok (.invokevirtual 58, 3) := by decide +kernel
theorem dX6_drive_33 : decode cX6_drive 33 = .ok (.astore_n 2, 1) := by decide +kernel
theorem dX6_drive_34 : decode cX6_drive 34 = .ok (.aload_n 0, 1) := by decide +kernel
theorem dX6_drive_35 : decode cX6_drive 35 = .ok (.iload_n 1, 1) := by decide +kernel
theorem dX6_drive_36 : decode cX6_drive 36 = .ok (.invokevirtual 62, 3) := by decide +kernel
theorem dX6_drive_39 : decode cX6_drive 39 = .ok (.aload_n 2, 1) := by decide +kernel
theorem dX6_drive_40 : decode cX6_drive 40 = .ok (.getfield 66, 3) := by decide +kernel
theorem dX6_drive_43 : decode cX6_drive 43 = .ok (.ireturn, 1) := by decide +kernel
theorem dX6_token_0 : decode cX6_token 0 = .ok (.aload_n 0, 1) := by decide +kernel
theorem dX6_token_1 : decode cX6_token 1 = .ok (.getfield 10, 3) := by decide +kernel
theorem dX6_token_4 : decode cX6_token 4 = .ok (.iconst 5, 1) := by decide +kernel
theorem dX6_token_5 : decode cX6_token 5 = .ok (.invokevirtual 54, 3) := by decide +kernel
theorem dX6_token_8 : decode cX6_token 8 = .ok (.ifCond .eq 6, 3) := by decide +kernel
theorem dX6_token_11 : decode cX6_token 11 = .ok (.bipush (-2), 2) := by decide +kernel
theorem dX6_token_13 : decode cX6_token 13 = .ok (.ireturn, 1) := by decide +kernel
theorem dX6_token_14 : decode cX6_token 14 = .ok (.aload_n 0, 1) := by decide +kernel
theorem dX6_token_15 : decode cX6_token 15 = .ok (.getfield 10, 3) := by decide +kernel
theorem dX6_token_18 : decode cX6_token 18 = .ok (.invokevirtual 71, 3) := by decide +kernel
theorem dX6_token_21 : decode cX6_token 21 = .ok (.astore_n 1, 1) := by decide +kernel
theorem dX6_token_22 : decode cX6_token 22 = .ok (.aload_n 0, 1) := by decide +kernel
theorem dX6_token_23 : decode cX6_token 23 = .ok (.iconst 5, 1) := by decide +kernel
theorem dX6_token_24 : decode cX6_token 24 = .ok (.invokevirtual 62, 3) := by decide +kernel
theorem dX6_token_27 : decode cX6_token 27 = .ok (.aload_n 1, 1) := by decide +kernel
theorem dX6_token_28 : decode cX6_token 28 = .ok (.getfield 74, 3) := by decide +kernel
theorem dX6_token_31 : decode cX6_token 31 = .ok (.ireturn, 1) := by decide +kernel
theorem dX6_lose_0 : decode cX6_lose 0 = .ok (.aload_n 0, 1) := by decide +kernel
theorem dX6_lose_1 : decode cX6_lose 1 = .ok (.getfield 10, 3) := by decide +kernel
theorem dX6_lose_4 : decode cX6_lose 4 = .ok (.iconst 0, 1) := by decide +kernel
theorem dX6_lose_5 : decode cX6_lose 5 = .ok (.invokevirtual 54, 3) := by decide +kernel
theorem dX6_lose_8 : decode cX6_lose 8 = .ok (.ifCond .eq 6, 3) := by decide +kernel
theorem dX6_lose_11 : decode cX6_lose 11 = .ok (.bipush (-2), 2) := by decide +kernel
theorem dX6_lose_13 : decode cX6_lose 13 = .ok (.ireturn, 1) := by decide +kernel
theorem dX6_lose_14 : decode cX6_lose 14 = .ok (.aload_n 0, 1) := by decide +kernel
theorem dX6_lose_15 : decode cX6_lose 15 = .ok (.getfield 10, 3) := by decide +kernel
theorem dX6_lose_18 : decode cX6_lose 18 = .ok (.invokevirtual 58, 3) := by decide +kernel
theorem dX6_lose_21 : decode cX6_lose 21 = .ok (.astore_n 1, 1) := by decide +kernel
theorem dX6_lose_22 : decode cX6_lose 22 = .ok (.aload_n 0, 1) := by decide +kernel
theorem dX6_lose_23 : decode cX6_lose 23 = .ok (.iconst 0, 1) := by decide +kernel
theorem dX6_lose_24 : decode cX6_lose 24 = .ok (.invokevirtual 62, 3) := by decide +kernel
theorem dX6_lose_27 : decode cX6_lose 27 = .ok (.aload_n 1, 1) := by decide +kernel
theorem dX6_lose_28 : decode cX6_lose 28 = .ok (.getfield 74, 3) := by decide +kernel
theorem dX6_lose_31 : decode cX6_lose 31 = .ok (.ireturn, 1) := by decide +kernel
theorem dX6_best_0 : decode cX6_best 0 = .ok (.aload_n 0, 1) := by decide +kernel
theorem dX6_best_1 : decode cX6_best 1 = .ok (.getfield 10, 3) := by decide +kernel
theorem dX6_best_4 : decode cX6_best 4 = .ok (.invokevirtual 77, 3) := by decide +kernel
theorem dX6_best_7 : decode cX6_best 7 = .ok (.ifCond .eq 6, 3) := by decide +kernel
theorem dX6_best_10 : decode cX6_best 10 = .ok (.bipush (-2), 2) := by decide +kernel
theorem dX6_best_12 : decode cX6_best 12 = .ok (.ireturn, 1) := by decide +kernel
theorem dX6_best_13 : decode cX6_best 13 = .ok (.aload_n 0, 1) := by decide +kernel
theorem dX6_best_14 : decode cX6_best 14 = .ok (.invokevirtual 81, 3) := by decide +kernel
theorem dX6_best_17 : decode cX6_best 17 = .ok (.aload_n 0, 1) := by decide +kernel
theorem dX6_best_18 : decode cX6_best 18 = .ok (.getfield 10, 3) := by decide +kernel
theorem dX6_best_21 : decode cX6_best 21 = .ok (.invokevirtual 85, 3) := by decide +kernel
theorem dX6_best_24 : decode cX6_best 24 = .ok (.istore_n 1, 1) := by decide +kernel
theorem dX6_best_25 : decode cX6_best 25 = .ok (.aload_n 0, 1) := by decide +kernel
theorem dX6_best_26 : decode cX6_best 26 = .ok (.iload_n 1, 1) := by decide +kernel
theorem dX6_best_27 : decode cX6_best 27 = .ok (.invokevirtual 62, 3) := by decide +kernel
theorem dX6_best_30 : decode cX6_best 30 = .ok (.iload_n 1, 1) := by decide +kernel
theorem dX6_best_31 : decode cX6_best 31 = .ok (.ireturn, 1) := by decide +kernel
theorem dX6_greedy_0 : decode cX6_greedy 0 = .ok (.aload_n 0, 1) := by decide +kernel
theorem dX6_greedy_1 : decode cX6_greedy 1 = .ok (.getfield 10, 3) := by decide +kernel
theorem dX6_greedy_4 : decode cX6_greedy 4 = .ok (.invokevirtual 77, 3) := by decide +kernel
theorem dX6_greedy_7 : decode cX6_greedy 7 = .ok (.ifCond .eq 6, 3) := by decide +kernel
theorem dX6_greedy_10 : decode cX6_greedy 10 = .ok (.bipush (-2), 2) := by decide +kernel
theorem dX6_greedy_12 : decode cX6_greedy 12 = .ok (.ireturn, 1) := by decide +kernel
theorem dX6_greedy_13 : decode cX6_greedy 13 = .ok (.aload_n 0, 1) := by decide +kernel
theorem dX6_greedy_14 : decode cX6_greedy 14 = .ok (.getfield 10, 3) := by decide +kernel
theorem dX6_greedy_17 : decode cX6_greedy 17 = .ok (.invokevirtual 89, 3) := by decide +kernel
theorem dX6_greedy_20 : decode cX6_greedy 20 = .ok (.istore_n 1, 1) := by decide +kernel
theorem dX6_greedy_21 : decode cX6_greedy 21 = .ok (.aload_n 0, 1) := by decide +kernel
theorem dX6_greedy_22 : decode cX6_greedy 22 = .ok (.iload_n 1, 1) := by decide +kernel
theorem dX6_greedy_23 : decode cX6_greedy 23 = .ok (.invokevirtual 62, 3) := by decide +kernel
theorem dX6_greedy_26 : decode cX6_greedy 26 = .ok (.iload_n 1, 1) := by decide +kernel
theorem dX6_greedy_27 : decode cX6_greedy 27 = .ok (.ireturn, 1) := by decide +kernel
theorem dX6_again_0 : decode cX6_again 0 = .ok (.aload_n 0, 1) := by decide +kernel
theorem dX6_again_1 : decode cX6_again 1 = .ok (.getfield 25, 3) := by decide +kernel
theorem dX6_again_4 : decode cX6_again 4 = .ok (.aload_n 0, 1) := by decide +kernel
theorem dX6_again_5 : decode cX6_again 5 = .ok (.getfield 10, 3) := by decide +kernel
theorem dX6_again_8 : decode cX6_again 8 = .ok (.invokevirtual 93, 3) := by decide +kernel
theorem dX6_again_11 : decode cX6_again 11 = .ok (.aload_n 0, 1) := by decide +kernel
theorem dX6_again_12 : decode cX6_again 12 = .ok (.getfield 10, 3) := by decide +kernel
theorem dX6_again_15 : decode cX6_again 15 = .ok (.invokevirtual 97, 3) := by decide +kernel
theorem dX6_again_18 : decode cX6_again 18 = .ok (.aload_n 0, 1) := by decide +kernel
theorem dX6_again_19 : decode cX6_again 19 = .ok (.getfield 10, 3) := by decide +kernel
theorem dX6_again_22 : decode cX6_again 22 = .ok (.getfield 100, 3) := by decide +kernel
theorem dX6_again_25 : decode cX6_again 25 = .ok (.getfield 104, 3) := by decide +kernel
theorem dX6_again_28 : decode cX6_again 28 = .ok (.ireturn, 1) := by decide +kernel
theorem dX6_set_0 : decode cX6_set 0 = .ok (.iload_n 1, 1) := by decide +kernel
theorem dX6_set_1 : decode cX6_set 1 = .ok (.ifCond .ne 42, 3) := by decide +kernel
theorem dX6_set_4 : decode cX6_set 4 = .ok (.iload_n 2, 1) := by decide +kernel
theorem dX6_set_5 : decode cX6_set 5 = .ok (.iconst 1, 1) := by decide +kernel
theorem dX6_set_6 : decode cX6_set 6 = .ok (.if_icmp .lt 37, 3) := by decide +kernel
theorem dX6_set_9 : decode cX6_set 9 = .ok (.iload_n 2, 1) := by decide +kernel
theorem dX6_set_10 : decode cX6_set 10 = .ok (.iconst 4, 1) := by decide +kernel
theorem dX6_set_11 : decode cX6_set 11 = .ok (.if_icmp .gt 32, 3) := by decide +kernel
theorem dX6_set_14 : decode cX6_set 14 = .ok (.aload_n 0, 1) := by decide +kernel
theorem dX6_set_15 : decode cX6_set 15 = .ok (.getfield 10, 3) := by decide +kernel
theorem dX6_set_18 : decode cX6_set 18 = .ok (.getfield 109, 3) := by decide +kernel
theorem dX6_set_21 : decode cX6_set 21 = .ok (.istore_n 3, 1) := by decide +kernel
theorem dX6_set_22 : decode cX6_set 22 = .ok (.aload_n 0, 1) := by decide +kernel
theorem dX6_set_23 : decode cX6_set 23 = .ok (.getfield 25, 3) := by decide +kernel
theorem dX6_set_26 : decode cX6_set 26 = .ok (.aload_n 0, 1) := by decide +kernel
theorem dX6_set_27 : decode cX6_set 27 = .ok (.getfield 10, 3) := by decide +kernel
theorem dX6_set_30 : decode cX6_set 30 = .ok (.invokevirtual 93, 3) := by decide +kernel
theorem dX6_set_33 : decode cX6_set 33 = .ok (.aload_n 0, 1) := by decide +kernel
theorem dX6_set_34 : decode cX6_set 34 = .ok (.getfield 10, 3) := by decide +kernel
theorem dX6_set_37 : decode cX6_set 37 = .ok (.iload_n 2, 1) := by decide +kernel
theorem dX6_set_38 : decode cX6_set 38 = .ok (.putfield 109, 3) := by decide +kernel
theorem dX6_set_41 : decode cX6_set 41 = .ok (.iload_n 3, 1) := by decide +kernel
theorem dX6_set_42 : decode cX6_set 42 = .ok (.ireturn, 1) := by decide +kernel
theorem dX6_set_43 : decode cX6_set 43 = .ok (.iload_n 1, 1) := by decide +kernel
theorem dX6_set_44 : decode cX6_set 44 = .ok (.iconst 1, 1) := by decide +kernel
theorem dX6_set_45 : decode cX6_set 45 = .ok (.if_icmp .ne 42, 3) := by decide +kernel
theorem dX6_set_48 : decode cX6_set 48 = .ok (.iload_n 2, 1) := by decide +kernel
theorem dX6_set_49 : decode cX6_set 49 = .ok (.iconst 1, 1) := by decide +kernel
theorem dX6_set_50 : decode cX6_set 50 = .ok (.if_icmp .lt 37, 3) := by decide +kernel
theorem dX6_set_53 : decode cX6_set 53 = .ok (.iload_n 2, 1) := by decide +kernel
theorem dX6_set_54 : decode cX6_set 54 = .ok (.iconst 3, 1) := by decide +kernel
theorem dX6_set_55 : decode cX6_set 55 = .ok (.if_icmp .gt 32, 3) := by decide +kernel
theorem dX6_set_58 : decode cX6_set 58 = .ok (.aload_n 0, 1) := by decide +kernel
theorem dX6_set_59 : decode cX6_set 59 = .ok (.getfield 10, 3) := by decide +kernel
theorem dX6_set_62 : decode cX6_set 62 = .ok (.getfield 112, 3) := by decide +kernel
theorem dX6_set_65 : decode cX6_set 65 = .ok (.istore_n 3, 1) := by decide +kernel
theorem dX6_set_66 : decode cX6_set 66 = .ok (.aload_n 0, 1) := by decide +kernel
theorem dX6_set_67 : decode cX6_set 67 = .ok (.getfield 25, 3) := by decide +kernel
theorem dX6_set_70 : decode cX6_set 70 = .ok (.aload_n 0, 1) := by decide +kernel
theorem dX6_set_71 : decode cX6_set 71 = .ok (.getfield 10, 3) := by decide +kernel
theorem dX6_set_74 : decode cX6_set 74 = .ok (.invokevirtual 93, 3) := by decide +kernel
theorem dX6_set_77 : decode cX6_set 77 = .ok (.aload_n 0, 1) := by decide +kernel
theorem dX6_set_78 : decode cX6_set 78 = .ok (.getfield 10, 3) := by decide +kernel
theorem dX6_set_81 : decode cX6_set 81 = .ok (.iload_n 2, 1) := by decide +kernel
theorem dX6_set_82 : decode cX6_set 82 = .ok (.putfield 112, 3) := by decide +kernel
theorem dX6_set_85 : decode cX6_set 85 = .ok (.iload_n 3, 1) := by decide +kernel
theorem dX6_set_86 : decode cX6_set 86 = .ok (.ireturn, 1) := by decide +kernel
theorem dX6_set_87 : decode cX6_set 87 = .ok (.iconst (-1), 1) := by decide +kernel
theorem dX6_set_88 : decode cX6_set 88 = .ok (.ireturn, 1) := by decide +kernel
theorem dX6_append_0 : decode cX6_append 0 = .ok (.iload_n 1, 1) := by decide +kernel
theorem dX6_append_1 : decode cX6_append 1 = .ok (.bipush 33, 2) := by decide +kernel
theorem dX6_append_3 : decode cX6_append 3 = .ok (.if_icmp .lt 9, 3) := by decide +kernel
theorem dX6_append_6 : decode cX6_append 6 = .ok (.iload_n 1, 1) := by decide +kernel
theorem dX6_append_7 : decode cX6_append 7 = .ok (.bipush 126, 2) := by decide +kernel
theorem dX6_append_9 : decode cX6_append 9 = .ok (.if_icmp .le 5, 3) := by decide +kernel
theorem dX6_append_12 : decode cX6_append 12 = .ok (.iconst (-1), 1) := by decide +kernel
theorem dX6_append_13 : decode cX6_append 13 = .ok (.ireturn, 1) := by decide +kernel
theorem dX6_append_14 : decode cX6_append 14 = .ok (.aload_n 0, 1) := by decide +kernel
theorem dX6_append_15 : decode cX6_append 15 = .ok (.getfield 32, 3) := by decide +kernel
theorem dX6_append_18 : decode cX6_append 18 = .ok (.invokevirtual 115, 3) := by decide +kernel
theorem dX6_append_21 : decode cX6_append 21 = .ok (.ifCond .eq 8, 3) := by decide +kernel
theorem dX6_append_24 : decode cX6_append 24 = .ok (.bipush (-3), 2) := by decide +kernel
theorem dX6_append_26 : decode cX6_append 26 = .ok (.goto 11, 3) := by decide +kernel
theorem dX6_append_29 : decode cX6_append 29 = .ok (.aload_n 0, 1) := by decide +kernel
theorem dX6_append_30 : decode cX6_append 30 = .ok (.getfield 32, 3) := by decide +kernel
theorem dX6_append_33 : decode cX6_append 33 = .ok (.iload_n 1, 1) := by decide +kernel
theorem dX6_append_34 : decode cX6_append 34 = .ok (.invokevirtual 118, 3) := by decide +kernel
theorem dX6_append_37 : decode cX6_append 37 = .ok (.ireturn, 1) := by decide +kernel
theorem dX6_clear_0 : decode cX6_clear 0 = .ok (.aload_n 0, 1) := by decide +kernel
theorem dX6_clear_1 : decode cX6_clear 1 = .ok (.getfield 32, 3) := by decide +kernel
theorem dX6_clear_4 : decode cX6_clear 4 = .ok (.invokevirtual 121, 3) := by decide +kernel
theorem dX6_clear_7 : decode cX6_clear 7 = .ok (.ireturn, 1) := by decide +kernel
theorem dX6_road_0 : decode cX6_road 0 = .ok (.aload_n 0, 1) := by decide +kernel
theorem dX6_road_1 : decode cX6_road 1 = .ok (.getfield 32, 3) := by decide +kernel
theorem dX6_road_4 : decode cX6_road 4 = .ok (.iconst 0, 1) := by decide +kernel
theorem dX6_road_5 : decode cX6_road 5 = .ok (.invokevirtual 124, 3) := by decide +kernel
theorem dX6_road_8 : decode cX6_road 8 = .ok (.bipush (-4), 2) := by decide +kernel
theorem dX6_road_10 : decode cX6_road 10 = .ok (.if_icmp .eq 6, 3) := by decide +kernel
theorem dX6_road_13 : decode cX6_road 13 = .ok (.bipush (-2), 2) := by decide +kernel
theorem dX6_road_15 : decode cX6_road 15 = .ok (.ireturn, 1) := by decide +kernel
theorem dX6_road_16 : decode cX6_road 16 = .ok (.aload_n 0, 1) := by decide +kernel
theorem dX6_road_17 : decode cX6_road 17 = .ok (.getfield 25, 3) := by decide +kernel
theorem dX6_road_20 : decode cX6_road 20 = .ok (.aload_n 0, 1) := by decide +kernel
theorem dX6_road_21 : decode cX6_road 21 = .ok (.getfield 10, 3) := by decide +kernel
theorem dX6_road_24 : decode cX6_road 24 = .ok (.invokevirtual 93, 3) := by decide +kernel
theorem dX6_road_27 : decode cX6_road 27 = .ok (.aload_n 0, 1) := by decide +kernel
theorem dX6_road_28 : decode cX6_road 28 = .ok (.getfield 32, 3) := by decide +kernel
theorem dX6_road_31 : decode cX6_road 31 = .ok (.aload_n 0, 1) := by decide +kernel
theorem dX6_road_32 : decode cX6_road 32 = .ok (.getfield 10, 3) := by decide +kernel
theorem dX6_road_35 : decode cX6_road 35 = .ok (.getfield 100, 3) := by decide +kernel
theorem dX6_road_38 : decode cX6_road 38 = .ok (.invokevirtual 127, 3) := by decide +kernel
theorem dX6_road_41 : decode cX6_road 41 = .ok (.aload_n 0, 1) := by decide +kernel
theorem dX6_road_42 : decode cX6_road 42 = .ok (.getfield 32, 3) := by decide +kernel
theorem dX6_road_45 : decode cX6_road 45 = .ok (.invokevirtual 121, 3) := by decide +kernel
theorem dX6_road_48 : decode cX6_road 48 = .ok (.pop, 1) := by decide +kernel
theorem dX6_road_49 : decode cX6_road 49 = .ok (.aload_n 0, 1) := by decide +kernel
theorem dX6_road_50 : decode cX6_road 50 = .ok (.getfield 10, 3) := by decide +kernel
theorem dX6_road_53 : decode cX6_road 53 = .ok (.invokevirtual 97, 3) := by decide +kernel
theorem dX6_road_56 : decode cX6_road 56 = .ok (.aload_n 0, 1) := by decide +kernel
theorem dX6_road_57 : decode cX6_road 57 = .ok (.getfield 10, 3) := by decide +kernel
theorem dX6_road_60 : decode cX6_road 60 = .ok (.getfield 100, 3) := by decide +kernel
theorem dX6_road_63 : decode cX6_road 63 = .ok (.getfield 104, 3) := by decide +kernel
theorem dX6_road_66 : decode cX6_road 66 = .ok (.ireturn, 1) := by decide +kernel
theorem dX6_why_0 : decode cX6_why 0 = .ok (.iload_n 1, 1) := by decide +kernel
theorem dX6_why_1 : decode cX6_why 1 = .ok (.ifCond .eq 10, 3) := by decide +kernel
theorem dX6_why_4 : decode cX6_why 4 = .ok (.iload_n 1, 1) := by decide +kernel
theorem dX6_why_5 : decode cX6_why 5 = .ok (.iconst 1, 1) := by decide +kernel
theorem dX6_why_6 : decode cX6_why 6 = .ok (.if_icmp .eq 5, 3) := by decide +kernel
theorem dX6_why_9 : decode cX6_why 9 = .ok (.iconst (-1), 1) := by decide +kernel
theorem dX6_why_10 : decode cX6_why 10 = .ok (.ireturn, 1) := by decide +kernel
theorem dX6_why_11 : decode cX6_why 11 = .ok (.aload_n 0, 1) := by decide +kernel
theorem dX6_why_12 : decode cX6_why 12 = .ok (.getfield 51, 3) := by decide +kernel
theorem dX6_why_15 : decode cX6_why 15 = .ok (.ifCond .ne 6, 3) := by decide +kernel
theorem dX6_why_18 : decode cX6_why 18 = .ok (.bipush (-4), 2) := by decide +kernel
theorem dX6_why_20 : decode cX6_why 20 = .ok (.ireturn, 1) := by decide +kernel
theorem dX6_why_21 : decode cX6_why 21 = .ok (.iload_n 1, 1) := by decide +kernel
theorem dX6_why_22 : decode cX6_why 22 = .ok (.ifCond .ne 10, 3) := by decide +kernel
theorem dX6_why_25 : decode cX6_why 25 = .ok (.aload_n 0, 1) := by decide +kernel
theorem dX6_why_26 : decode cX6_why 26 = .ok (.getfield 47, 3) := by decide +kernel
theorem dX6_why_29 : decode cX6_why 29 = .ok (.goto 7, 3) := by decide +kernel
theorem dX6_why_32 : decode cX6_why 32 = .ok (.aload_n 0, 1) := by decide +kernel
theorem dX6_why_33 : decode cX6_why 33 = .ok (.getfield 51, 3) := by decide +kernel
theorem dX6_why_36 : decode cX6_why 36 = .ok (.ireturn, 1) := by decide +kernel
theorem dX6_mile_0 : decode cX6_mile 0 = .ok (.iload_n 1, 1) := by decide +kernel
theorem dX6_mile_1 : decode cX6_mile 1 = .ok (.iconst 1, 1) := by decide +kernel
theorem dX6_mile_2 : decode cX6_mile 2 = .ok (.if_icmp .lt 17, 3) := by decide +kernel
theorem dX6_mile_5 : decode cX6_mile 5 = .ok (.iload_n 1, 1) := by decide +kernel
theorem dX6_mile_6 : decode cX6_mile 6 = .ok (.aload_n 0, 1) := by decide +kernel
theorem dX6_mile_7 : decode cX6_mile 7 = .ok (.getfield 10, 3) := by decide +kernel
theorem dX6_mile_10 : decode cX6_mile 10 = .ok (.getfield 100, 3) := by decide +kernel
theorem dX6_mile_13 : decode cX6_mile 13 = .ok (.getfield 104, 3) := by decide +kernel
theorem dX6_mile_16 : decode cX6_mile 16 = .ok (.if_icmp .le 5, 3) := by decide +kernel
theorem dX6_mile_19 : decode cX6_mile 19 = .ok (.iconst (-1), 1) := by decide +kernel
theorem dX6_mile_20 : decode cX6_mile 20 = .ok (.ireturn, 1) := by decide +kernel
theorem dX6_mile_21 : decode cX6_mile 21 = .ok (.iload_n 2, 1) := by decide +kernel
theorem dX6_mile_22 : decode cX6_mile 22 = .ok (.tableswitch 81 0 3 #[30, 42, 51, 66], 30) := by decide +kernel
theorem dX6_mile_52 : decode cX6_mile 52 = .ok (.aload_n 0, 1) := by decide +kernel
theorem dX6_mile_53 : decode cX6_mile 53 = .ok (.getfield 10, 3) := by decide +kernel
theorem dX6_mile_56 : decode cX6_mile 56 = .ok (.getfield 100, 3) := by decide +kernel
theorem dX6_mile_59 : decode cX6_mile 59 = .ok (.iload_n 1, 1) := by decide +kernel
theorem dX6_mile_60 : decode cX6_mile 60 = .ok (.invokevirtual 143, 3) := by decide +kernel
theorem dX6_mile_63 : decode cX6_mile 63 = .ok (.ireturn, 1) := by decide +kernel
theorem dX6_mile_64 : decode cX6_mile 64 = .ok (.aload_n 0, 1) := by decide +kernel
theorem dX6_mile_65 : decode cX6_mile 65 = .ok (.getfield 10, 3) := by decide +kernel
theorem dX6_mile_68 : decode cX6_mile 68 = .ok (.iload_n 1, 1) := by decide +kernel
theorem dX6_mile_69 : decode cX6_mile 69 = .ok (.invokevirtual 146, 3) := by decide +kernel
theorem dX6_mile_72 : decode cX6_mile 72 = .ok (.ireturn, 1) := by decide +kernel
theorem dX6_mile_73 : decode cX6_mile 73 = .ok (.aload_n 0, 1) := by decide +kernel
theorem dX6_mile_74 : decode cX6_mile 74 = .ok (.getfield 10, 3) := by decide +kernel
theorem dX6_mile_77 : decode cX6_mile 77 = .ok (.getfield 149, 3) := by decide +kernel
theorem dX6_mile_80 : decode cX6_mile 80 = .ok (.getfield 153, 3) := by decide +kernel
theorem dX6_mile_83 : decode cX6_mile 83 = .ok (.iload_n 1, 1) := by decide +kernel
theorem dX6_mile_84 : decode cX6_mile 84 = .ok (.invokestatic 157, 3) := by decide +kernel
theorem dX6_mile_87 : decode cX6_mile 87 = .ok (.ireturn, 1) := by decide +kernel
theorem dX6_mile_88 : decode cX6_mile 88 = .ok (.aload_n 0, 1) := by decide +kernel
theorem dX6_mile_89 : decode cX6_mile 89 = .ok (.getfield 10, 3) := by decide +kernel
theorem dX6_mile_92 : decode cX6_mile 92 = .ok (.getfield 161, 3) := by decide +kernel
theorem dX6_mile_95 : decode cX6_mile 95 = .ok (.getfield 153, 3) := by decide +kernel
theorem dX6_mile_98 : decode cX6_mile 98 = .ok (.iload_n 1, 1) := by decide +kernel
theorem dX6_mile_99 : decode cX6_mile 99 = .ok (.invokestatic 157, 3) := by decide +kernel
theorem dX6_mile_102 : decode cX6_mile 102 = .ok (.ireturn, 1) := by decide +kernel
theorem dX6_mile_103 : decode cX6_mile 103 = .ok (.iconst (-1), 1) := by decide +kernel
theorem dX6_mile_104 : decode cX6_mile 104 = .ok (.ireturn, 1) := by decide +kernel
theorem dX6_wagon_0 : decode cX6_wagon 0 = .ok (.iload_n 1, 1) := by decide +kernel
theorem dX6_wagon_1 : decode cX6_wagon 1 = .ok (.ifCond .eq 10, 3) := by decide +kernel
theorem dX6_wagon_4 : decode cX6_wagon 4 = .ok (.iload_n 1, 1) := by decide +kernel
theorem dX6_wagon_5 : decode cX6_wagon 5 = .ok (.iconst 1, 1) := by decide +kernel
theorem dX6_wagon_6 : decode cX6_wagon 6 = .ok (.if_icmp .eq 5, 3) := by decide +kernel
theorem dX6_wagon_9 : decode cX6_wagon 9 = .ok (.iconst (-1), 1) := by decide +kernel
theorem dX6_wagon_10 : decode cX6_wagon 10 = .ok (.ireturn, 1) := by decide +kernel
theorem dX6_wagon_11 : decode cX6_wagon 11 = .ok (.iload_n 1, 1) := by decide +kernel
theorem dX6_wagon_12 : decode cX6_wagon 12 = .ok (.ifCond .ne 17, 3) := by decide +kernel
theorem dX6_wagon_15 : decode cX6_wagon 15 = .ok (.aload_n 0, 1) := by decide +kernel
theorem dX6_wagon_16 : decode cX6_wagon 16 = .ok (.getfield 10, 3) := by decide +kernel
theorem dX6_wagon_19 : decode cX6_wagon 19 = .ok (.getfield 149, 3) := by decide +kernel
theorem dX6_wagon_22 : decode cX6_wagon 22 = .ok (.iload_n 2, 1) := by decide +kernel
theorem dX6_wagon_23 : decode cX6_wagon 23 = .ok (.invokevirtual 164, 3) := by decide +kernel
theorem dX6_wagon_26 : decode cX6_wagon 26 = .ok (.goto 14, 3) := by decide +kernel
theorem dX6_wagon_29 : decode cX6_wagon 29 = .ok (.aload_n 0, 1) := by decide +kernel
theorem dX6_wagon_30 : decode cX6_wagon 30 = .ok (.getfield 10, 3) := by decide +kernel
theorem dX6_wagon_33 : decode cX6_wagon 33 = .ok (.getfield 161, 3) := by decide +kernel
theorem dX6_wagon_36 : decode cX6_wagon 36 = .ok (.iload_n 2, 1) := by decide +kernel
theorem dX6_wagon_37 : decode cX6_wagon 37 = .ok (.invokevirtual 164, 3) := by decide +kernel
theorem dX6_wagon_40 : decode cX6_wagon 40 = .ok (.ireturn, 1) := by decide +kernel
theorem dX6_worth_0 : decode cX6_worth 0 = .ok (.iload_n 1, 1) := by decide +kernel
theorem dX6_worth_1 : decode cX6_worth 1 = .ok (.ifCond .eq 10, 3) := by decide +kernel
theorem dX6_worth_4 : decode cX6_worth 4 = .ok (.iload_n 1, 1) := by decide +kernel
theorem dX6_worth_5 : decode cX6_worth 5 = .ok (.iconst 1, 1) := by decide +kernel
theorem dX6_worth_6 : decode cX6_worth 6 = .ok (.if_icmp .eq 5, 3) := by decide +kernel
theorem dX6_worth_9 : decode cX6_worth 9 = .ok (.iconst (-1), 1) := by decide +kernel
theorem dX6_worth_10 : decode cX6_worth 10 = .ok (.ireturn, 1) := by decide +kernel
theorem dX6_worth_11 : decode cX6_worth 11 = .ok (.aload_n 0, 1) := by decide +kernel
theorem dX6_worth_12 : decode cX6_worth 12 = .ok (.getfield 10, 3) := by decide +kernel
theorem dX6_worth_15 : decode cX6_worth 15 = .ok (.invokevirtual 77, 3) := by decide +kernel
theorem dX6_worth_18 : decode cX6_worth 18 = .ok (.ifCond .eq 7, 3) := by decide +kernel
theorem dX6_worth_21 : decode cX6_worth 21 = .ok (.sipush 500, 3) := by decide +kernel
theorem dX6_worth_24 : decode cX6_worth 24 = .ok (.ireturn, 1) := by decide +kernel
theorem dX6_worth_25 : decode cX6_worth 25 = .ok (.aload_n 0, 1) := by decide +kernel
theorem dX6_worth_26 : decode cX6_worth 26 = .ok (.invokevirtual 81, 3) := by decide +kernel
theorem dX6_worth_29 : decode cX6_worth 29 = .ok (.astore_n 2, 1) := by decide +kernel
theorem dX6_worth_30 : decode cX6_worth 30 = .ok (.sipush 1000, 3) := by decide +kernel
theorem dX6_worth_33 : decode cX6_worth 33 = .ok (.iload_n 1, 1) := by decide +kernel
theorem dX6_worth_34 : decode cX6_worth 34 = .ok (.ifCond .ne 14, 3) := by decide +kernel
theorem dX6_worth_37 : decode cX6_worth 37 = .ok (.aload_n 2, 1) := by decide +kernel
theorem dX6_worth_38 : decode cX6_worth 38 = .ok (.aload_n 0, 1) := by decide +kernel
theorem dX6_worth_39 : decode cX6_worth 39 = .ok (.getfield 10, 3) := by decide +kernel
theorem dX6_worth_42 : decode cX6_worth 42 = .ok (.invokevirtual 171, 3) := by decide +kernel
theorem dX6_worth_45 : decode cX6_worth 45 = .ok (.goto 11, 3) := by decide +kernel
theorem dX6_worth_48 : decode cX6_worth 48 = .ok (.aload_n 2, 1) := by decide +kernel
theorem dX6_worth_49 : decode cX6_worth 49 = .ok (.aload_n 0, 1) := by decide +kernel
theorem dX6_worth_50 : decode cX6_worth 50 = .ok (.getfield 10, 3) := by decide +kernel
theorem dX6_worth_53 : decode cX6_worth 53 = .ok (.invokevirtual 174, 3) := by decide +kernel
theorem dX6_worth_56 : decode cX6_worth 56 = .ok (.iadd, 1) := by decide +kernel
theorem dX6_worth_57 : decode cX6_worth 57 = .ok (.ireturn, 1) := by decide +kernel
theorem dX6_worthOf_0 : decode cX6_worthOf 0 = .ok (.iload_n 1, 1) := by decide +kernel
theorem dX6_worthOf_1 : decode cX6_worthOf 1 = .ok (.iconst 1, 1) := by decide +kernel
theorem dX6_worthOf_2 : decode cX6_worthOf 2 = .ok (.if_icmp .lt 8, 3) := by decide +kernel
theorem dX6_worthOf_5 : decode cX6_worthOf 5 = .ok (.iload_n 1, 1) := by decide +kernel
theorem dX6_worthOf_6 : decode cX6_worthOf 6 = .ok (.iconst 5, 1) := by decide +kernel
theorem dX6_worthOf_7 : decode cX6_worthOf 7 = .ok (.if_icmp .le 5, 3) := by decide +kernel
theorem dX6_worthOf_10 : decode cX6_worthOf 10 = .ok (.iconst (-1), 1) := by decide +kernel
theorem dX6_worthOf_11 : decode cX6_worthOf 11 = .ok (.ireturn, 1) := by decide +kernel
theorem dX6_worthOf_12 : decode cX6_worthOf 12 = .ok (.aload_n 0, 1) := by decide +kernel
theorem dX6_worthOf_13 : decode cX6_worthOf 13 = .ok (.getfield 10, 3) := by decide +kernel
theorem dX6_worthOf_16 : decode cX6_worthOf 16 = .ok (.iload_n 1, 1) := by decide +kernel
theorem dX6_worthOf_17 : decode cX6_worthOf 17 = .ok (.invokevirtual 54, 3) := by decide +kernel
theorem dX6_worthOf_20 : decode cX6_worthOf 20 = .ok (.ifCond .eq 6, 3) := by decide +kernel
theorem dX6_worthOf_23 : decode cX6_worthOf 23 = .ok (.bipush (-2), 2) := by decide +kernel
theorem dX6_worthOf_25 : decode cX6_worthOf 25 = .ok (.ireturn, 1) := by decide +kernel
theorem dX6_worthOf_26 : decode cX6_worthOf 26 = .ok (.sipush 1000, 3) := by decide +kernel
theorem dX6_worthOf_29 : decode cX6_worthOf 29 = .ok (.aload_n 0, 1) := by decide +kernel
theorem dX6_worthOf_30 : decode cX6_worthOf 30 = .ok (.invokevirtual 81, 3) := by decide +kernel
theorem dX6_worthOf_33 : decode cX6_worthOf 33 = .ok (.aload_n 0, 1) := by decide +kernel
theorem dX6_worthOf_34 : decode cX6_worthOf 34 = .ok (.getfield 10, 3) := by decide +kernel
theorem dX6_worthOf_37 : decode cX6_worthOf 37 = .ok (.iload_n 1, 1) := by decide +kernel
theorem dX6_worthOf_38 : decode cX6_worthOf 38 = .ok (.invokevirtual 177, 3) := by decide +kernel
theorem dX6_worthOf_41 : decode cX6_worthOf 41 = .ok (.iadd, 1) := by decide +kernel
theorem dX6_worthOf_42 : decode cX6_worthOf 42 = .ok (.ireturn, 1) := by decide +kernel
theorem dX6_bestTurn_0 : decode cX6_bestTurn 0 = .ok (.aload_n 0, 1) := by decide +kernel
theorem dX6_bestTurn_1 : decode cX6_bestTurn 1 = .ok (.getfield 10, 3) := by decide +kernel
theorem dX6_bestTurn_4 : decode cX6_bestTurn 4 = .ok (.invokevirtual 77, 3) := by decide +kernel
theorem dX6_bestTurn_7 : decode cX6_bestTurn 7 = .ok (.ifCond .eq 8, 3) := by decide +kernel
theorem dX6_bestTurn_10 : decode cX6_bestTurn 10 = .ok (.bipush (-2), 2) := by decide +kernel
theorem dX6_bestTurn_12 : decode cX6_bestTurn 12 = .ok (.goto 14, 3) := by decide +kernel
theorem dX6_bestTurn_15 : decode cX6_bestTurn 15 = .ok (.aload_n 0, 1) := by decide +kernel
theorem dX6_bestTurn_16 : decode cX6_bestTurn 16 = .ok (.invokevirtual 81, 3) := by decide +kernel
theorem dX6_bestTurn_19 : decode cX6_bestTurn 19 = .ok (.aload_n 0, 1) := by decide +kernel
theorem dX6_bestTurn_20 : decode cX6_bestTurn 20 = .ok (.getfield 10, 3) := by decide +kernel
theorem dX6_bestTurn_23 : decode cX6_bestTurn 23 = .ok (.invokevirtual 85, 3) := by decide +kernel
theorem dX6_bestTurn_26 : decode cX6_bestTurn 26 = .ok (.ireturn, 1) := by decide +kernel
theorem dX6_count_0 : decode cX6_count 0 = .ok (.iload_n 1, 1) := by decide +kernel
theorem dX6_count_1 : decode cX6_count 1 = .ok (.tableswitch 213 0 13 #[71, 82, 105, 113, 121, 133, 145, 157, 165, 173, 181, 189, 197, 205], 71) := by decide +kernel
theorem dX6_count_72 : decode cX6_count 72 = .ok (.aload_n 0, 1) := by decide +kernel
theorem dX6_count_73 : decode cX6_count 73 = .ok (.getfield 10, 3) := by decide +kernel
theorem dX6_count_76 : decode cX6_count 76 = .ok (.getfield 100, 3) := by decide +kernel
theorem dX6_count_79 : decode cX6_count 79 = .ok (.getfield 104, 3) := by decide +kernel
theorem dX6_count_82 : decode cX6_count 82 = .ok (.ireturn, 1) := by decide +kernel
theorem dX6_count_83 : decode cX6_count 83 = .ok (.aload_n 0, 1) := by decide +kernel
theorem dX6_count_84 : decode cX6_count 84 = .ok (.getfield 10, 3) := by decide +kernel
theorem dX6_count_87 : decode cX6_count 87 = .ok (.invokevirtual 77, 3) := by decide +kernel
theorem dX6_count_90 : decode cX6_count 90 = .ok (.ifCond .eq 8, 3) := by decide +kernel
theorem dX6_count_93 : decode cX6_count 93 = .ok (.bipush (-4), 2) := by decide +kernel
theorem dX6_count_95 : decode cX6_count 95 = .ok (.goto 10, 3) := by decide +kernel
theorem dX6_count_98 : decode cX6_count 98 = .ok (.aload_n 0, 1) := by decide +kernel
theorem dX6_count_99 : decode cX6_count 99 = .ok (.getfield 10, 3) := by decide +kernel
theorem dX6_count_102 : decode cX6_count 102 = .ok (.getfield 181, 3) := by decide +kernel
theorem dX6_count_105 : decode cX6_count 105 = .ok (.ireturn, 1) := by decide +kernel
theorem dX6_count_106 : decode cX6_count 106 = .ok (.aload_n 0, 1) := by decide +kernel
theorem dX6_count_107 : decode cX6_count 107 = .ok (.getfield 10, 3) := by decide +kernel
theorem dX6_count_110 : decode cX6_count 110 = .ok (.getfield 184, 3) := by decide +kernel
theorem dX6_count_113 : decode cX6_count 113 = .ok (.ireturn, 1) := by decide +kernel
theorem dX6_count_114 : decode cX6_count 114 = .ok (.aload_n 0, 1) := by decide +kernel
theorem dX6_count_115 : decode cX6_count 115 = .ok (.getfield 10, 3) := by decide +kernel
theorem dX6_count_118 : decode cX6_count 118 = .ok (.getfield 187, 3) := by decide +kernel
theorem dX6_count_121 : decode cX6_count 121 = .ok (.ireturn, 1) := by decide +kernel
theorem dX6_count_122 : decode cX6_count 122 = .ok (.aload_n 0, 1) := by decide +kernel
theorem dX6_count_123 : decode cX6_count 123 = .ok (.getfield 10, 3) := by decide +kernel
theorem dX6_count_126 : decode cX6_count 126 = .ok (.getfield 100, 3) := by decide +kernel
theorem dX6_count_129 : decode cX6_count 129 = .ok (.iconst 1, 1) := by decide +kernel
theorem dX6_count_130 : decode cX6_count 130 = .ok (.invokevirtual 190, 3) := by decide +kernel
theorem dX6_count_133 : decode cX6_count 133 = .ok (.ireturn, 1) := by decide +kernel
theorem dX6_count_134 : decode cX6_count 134 = .ok (.aload_n 0, 1) := by decide +kernel
theorem dX6_count_135 : decode cX6_count 135 = .ok (.getfield 10, 3) := by decide +kernel
theorem dX6_count_138 : decode cX6_count 138 = .ok (.getfield 100, 3) := by decide +kernel
theorem dX6_count_141 : decode cX6_count 141 = .ok (.iconst 2, 1) := by decide +kernel
theorem dX6_count_142 : decode cX6_count 142 = .ok (.invokevirtual 190, 3) := by decide +kernel
theorem dX6_count_145 : decode cX6_count 145 = .ok (.ireturn, 1) := by decide +kernel
theorem dX6_count_146 : decode cX6_count 146 = .ok (.aload_n 0, 1) := by decide +kernel
theorem dX6_count_147 : decode cX6_count 147 = .ok (.getfield 10, 3) := by decide +kernel
theorem dX6_count_150 : decode cX6_count 150 = .ok (.getfield 100, 3) := by decide +kernel
theorem dX6_count_153 : decode cX6_count 153 = .ok (.iconst 3, 1) := by decide +kernel
theorem dX6_count_154 : decode cX6_count 154 = .ok (.invokevirtual 190, 3) := by decide +kernel
theorem dX6_count_157 : decode cX6_count 157 = .ok (.ireturn, 1) := by decide +kernel
theorem dX6_count_158 : decode cX6_count 158 = .ok (.aload_n 0, 1) := by decide +kernel
theorem dX6_count_159 : decode cX6_count 159 = .ok (.getfield 10, 3) := by decide +kernel
theorem dX6_count_162 : decode cX6_count 162 = .ok (.getfield 193, 3) := by decide +kernel
theorem dX6_count_165 : decode cX6_count 165 = .ok (.ireturn, 1) := by decide +kernel
theorem dX6_count_166 : decode cX6_count 166 = .ok (.aload_n 0, 1) := by decide +kernel
theorem dX6_count_167 : decode cX6_count 167 = .ok (.getfield 10, 3) := by decide +kernel
theorem dX6_count_170 : decode cX6_count 170 = .ok (.getfield 196, 3) := by decide +kernel
theorem dX6_count_173 : decode cX6_count 173 = .ok (.ireturn, 1) := by decide +kernel
theorem dX6_count_174 : decode cX6_count 174 = .ok (.aload_n 0, 1) := by decide +kernel
theorem dX6_count_175 : decode cX6_count 175 = .ok (.getfield 10, 3) := by decide +kernel
theorem dX6_count_178 : decode cX6_count 178 = .ok (.getfield 199, 3) := by decide +kernel
theorem dX6_count_181 : decode cX6_count 181 = .ok (.ireturn, 1) := by decide +kernel
theorem dX6_count_182 : decode cX6_count 182 = .ok (.aload_n 0, 1) := by decide +kernel
theorem dX6_count_183 : decode cX6_count 183 = .ok (.getfield 10, 3) := by decide +kernel
theorem dX6_count_186 : decode cX6_count 186 = .ok (.getfield 109, 3) := by decide +kernel
theorem dX6_count_189 : decode cX6_count 189 = .ok (.ireturn, 1) := by decide +kernel
theorem dX6_count_190 : decode cX6_count 190 = .ok (.aload_n 0, 1) := by decide +kernel
theorem dX6_count_191 : decode cX6_count 191 = .ok (.getfield 10, 3) := by decide +kernel
theorem dX6_count_194 : decode cX6_count 194 = .ok (.getfield 112, 3) := by decide +kernel
theorem dX6_count_197 : decode cX6_count 197 = .ok (.ireturn, 1) := by decide +kernel
theorem dX6_count_198 : decode cX6_count 198 = .ok (.aload_n 0, 1) := by decide +kernel
theorem dX6_count_199 : decode cX6_count 199 = .ok (.getfield 32, 3) := by decide +kernel
theorem dX6_count_202 : decode cX6_count 202 = .ok (.getfield 131, 3) := by decide +kernel
theorem dX6_count_205 : decode cX6_count 205 = .ok (.ireturn, 1) := by decide +kernel
theorem dX6_count_206 : decode cX6_count 206 = .ok (.aload_n 0, 1) := by decide +kernel
theorem dX6_count_207 : decode cX6_count 207 = .ok (.getfield 25, 3) := by decide +kernel
theorem dX6_count_210 : decode cX6_count 210 = .ok (.getfield 202, 3) := by decide +kernel
theorem dX6_count_213 : decode cX6_count 213 = .ok (.ireturn, 1) := by decide +kernel
theorem dX6_count_214 : decode cX6_count 214 = .ok (.iconst (-1), 1) := by decide +kernel
theorem dX6_count_215 : decode cX6_count 215 = .ok (.ireturn, 1) := by decide +kernel
theorem dX6_speed_0 : decode cX6_speed 0 = .ok (.aload_n 0, 1) := by decide +kernel
theorem dX6_speed_1 : decode cX6_speed 1 = .ok (.getfield 10, 3) := by decide +kernel
theorem dX6_speed_4 : decode cX6_speed 4 = .ok (.getfield 187, 3) := by decide +kernel
theorem dX6_speed_7 : decode cX6_speed 7 = .ok (.ifCond .ne 5, 3) := by decide +kernel
theorem dX6_speed_10 : decode cX6_speed 10 = .ok (.dconst 0, 1) := by decide +kernel
theorem dX6_speed_11 : decode cX6_speed 11 = .ok (.dreturn, 1) := by decide +kernel
theorem dX6_speed_12 : decode cX6_speed 12 = .ok (.aload_n 0, 1) := by decide +kernel
theorem dX6_speed_13 : decode cX6_speed 13 = .ok (.getfield 10, 3) := by decide +kernel
theorem dX6_speed_16 : decode cX6_speed 16 = .ok (.getfield 149, 3) := by decide +kernel
theorem dX6_speed_19 : decode cX6_speed 19 = .ok (.getfield 66, 3) := by decide +kernel
theorem dX6_speed_22 : decode cX6_speed 22 = .ok (.aload_n 0, 1) := by decide +kernel
theorem dX6_speed_23 : decode cX6_speed 23 = .ok (.getfield 10, 3) := by decide +kernel
theorem dX6_speed_26 : decode cX6_speed 26 = .ok (.getfield 161, 3) := by decide +kernel
theorem dX6_speed_29 : decode cX6_speed 29 = .ok (.getfield 66, 3) := by decide +kernel
theorem dX6_speed_32 : decode cX6_speed 32 = .ok (.iadd, 1) := by decide +kernel
theorem dX6_speed_33 : decode cX6_speed 33 = .ok (.i2d, 1) := by decide +kernel
theorem dX6_speed_34 : decode cX6_speed 34 = .ok (.aload_n 0, 1) := by decide +kernel
theorem dX6_speed_35 : decode cX6_speed 35 = .ok (.getfield 10, 3) := by decide +kernel
theorem dX6_speed_38 : decode cX6_speed 38 = .ok (.getfield 187, 3) := by decide +kernel
theorem dX6_speed_41 : decode cX6_speed 41 = .ok (.i2d, 1) := by decide +kernel
theorem dX6_speed_42 : decode cX6_speed 42 = .ok (.ddiv, 1) := by decide +kernel
theorem dX6_speed_43 : decode cX6_speed 43 = .ok (.dreturn, 1) := by decide +kernel
theorem dX6_ended_0 : decode cX6_ended 0 = .ok (.iload_n 1, 1) := by decide +kernel
theorem dX6_ended_1 : decode cX6_ended 1 = .ok (.ifCond .eq 8, 3) := by decide +kernel
theorem dX6_ended_4 : decode cX6_ended 4 = .ok (.iload_n 1, 1) := by decide +kernel
theorem dX6_ended_5 : decode cX6_ended 5 = .ok (.iconst 1, 1) := by decide +kernel
theorem dX6_ended_6 : decode cX6_ended 6 = .ok (.if_icmp .ne 12, 3) := by decide +kernel
theorem dX6_ended_9 : decode cX6_ended 9 = .ok (.iload_n 2, 1) := by decide +kernel
theorem dX6_ended_10 : decode cX6_ended 10 = .ok (.ifCond .eq 10, 3) := by decide +kernel
theorem dX6_ended_13 : decode cX6_ended 13 = .ok (.iload_n 2, 1) := by decide +kernel
theorem dX6_ended_14 : decode cX6_ended 14 = .ok (.iconst 1, 1) := by decide +kernel
theorem dX6_ended_15 : decode cX6_ended 15 = .ok (.if_icmp .eq 5, 3) := by decide +kernel
theorem dX6_ended_18 : decode cX6_ended 18 = .ok (.iconst (-1), 1) := by decide +kernel
theorem dX6_ended_19 : decode cX6_ended 19 = .ok (.ireturn, 1) := by decide +kernel
theorem dX6_ended_20 : decode cX6_ended 20 = .ok (.iload_n 3, 1) := by decide +kernel
theorem dX6_ended_21 : decode cX6_ended 21 = .ok (.ifCond .lt 8, 3) := by decide +kernel
theorem dX6_ended_24 : decode cX6_ended 24 = .ok (.iload_n 3, 1) := by decide +kernel
theorem dX6_ended_25 : decode cX6_ended 25 = .ok (.iconst 2, 1) := by decide +kernel
theorem dX6_ended_26 : decode cX6_ended 26 = .ok (.if_icmp .le 5, 3) := by decide +kernel
theorem dX6_ended_29 : decode cX6_ended 29 = .ok (.iconst (-1), 1) := by decide +kernel
theorem dX6_ended_30 : decode cX6_ended 30 = .ok (.ireturn, 1) := by decide +kernel
theorem dX6_ended_31 : decode cX6_ended 31 = .ok (.aload_n 0, 1) := by decide +kernel
theorem dX6_ended_32 : decode cX6_ended 32 = .ok (.getfield 16, 3) := by decide +kernel
theorem dX6_ended_35 : decode cX6_ended 35 = .ok (.aload_n 0, 1) := by decide +kernel
theorem dX6_ended_36 : decode cX6_ended 36 = .ok (.getfield 10, 3) := by decide +kernel
theorem dX6_ended_39 : decode cX6_ended 39 = .ok (.invokevirtual 205, 3) := by decide +kernel
theorem dX6_ended_42 : decode cX6_ended 42 = .ok (.aload_n 0, 1) := by decide +kernel
theorem dX6_ended_43 : decode cX6_ended 43 = .ok (.invokevirtual 81, 3) := by decide +kernel
theorem dX6_ended_46 : decode cX6_ended 46 = .ok (.astore 4, 2) := by decide +kernel
theorem dX6_ended_48 : decode cX6_ended 48 = .ok (.iconst 0, 1) := by decide +kernel
theorem dX6_ended_49 : decode cX6_ended 49 = .ok (.istore 5, 2) := by decide +kernel
theorem dX6_ended_51 : decode cX6_ended 51 = .ok (.iload 5, 2) := by decide +kernel
theorem dX6_ended_53 : decode cX6_ended 53 = .ok (.sipush 1000, 3) := by decide +kernel
theorem dX6_ended_56 : decode cX6_ended 56 = .ok (.if_icmp .ge 68, 3) := by decide +kernel
theorem dX6_ended_59 : decode cX6_ended 59 = .ok (.aload_n 0, 1) := by decide +kernel
theorem dX6_ended_60 : decode cX6_ended 60 = .ok (.getfield 16, 3) := by decide +kernel
theorem dX6_ended_63 : decode cX6_ended 63 = .ok (.invokevirtual 77, 3) := by decide +kernel
theorem dX6_ended_66 : decode cX6_ended 66 = .ok (.ifCond .ne 58, 3) := by decide +kernel
theorem dX6_ended_69 : decode cX6_ended 69 = .ok (.aload_n 0, 1) := by decide +kernel
theorem dX6_ended_70 : decode cX6_ended 70 = .ok (.getfield 16, 3) := by decide +kernel
theorem dX6_ended_73 : decode cX6_ended 73 = .ok (.getfield 181, 3) := by decide +kernel
theorem dX6_ended_76 : decode cX6_ended 76 = .ok (.ifCond .ne 7, 3) := by decide +kernel
theorem dX6_ended_79 : decode cX6_ended 79 = .ok (.iload_n 1, 1) := by decide +kernel
theorem dX6_ended_80 : decode cX6_ended 80 = .ok (.goto 4, 3) := by decide +kernel
theorem dX6_ended_83 : decode cX6_ended 83 = .ok (.iload_n 2, 1) := by decide +kernel
theorem dX6_ended_84 : decode cX6_ended 84 = .ok (.istore 6, 2) := by decide +kernel
theorem dX6_ended_86 : decode cX6_ended 86 = .ok (.aload_n 0, 1) := by decide +kernel
theorem dX6_ended_87 : decode cX6_ended 87 = .ok (.getfield 16, 3) := by decide +kernel
theorem dX6_ended_90 : decode cX6_ended 90 = .ok (.iload 6, 2) := by decide +kernel
theorem dX6_ended_92 : decode cX6_ended 92 = .ok (.iconst 1, 1) := by decide +kernel
theorem dX6_ended_93 : decode cX6_ended 93 = .ok (.if_icmp .ne 13, 3) := by decide +kernel
theorem dX6_ended_96 : decode cX6_ended 96 = .ok (.aload_n 0, 1) := by decide +kernel
theorem dX6_ended_97 : decode cX6_ended 97 = .ok (.getfield 16, 3) := by decide +kernel
theorem dX6_ended_100 : decode cX6_ended 100 = .ok (.invokevirtual 89, 3) := by decide +kernel
theorem dX6_ended_103 : decode cX6_ended 103 = .ok (.goto 12, 3) := by decide +kernel
theorem dX6_ended_106 : decode cX6_ended 106 = .ok (.aload 4, 2) := by decide +kernel
theorem dX6_ended_108 : decode cX6_ended 108 = .ok (.aload_n 0, 1) := by decide +kernel
theorem dX6_ended_109 : decode cX6_ended 109 = .ok (.getfield 16, 3) := by decide +kernel
theorem dX6_ended_112 : decode cX6_ended 112 = .ok (.invokevirtual 85, 3) := by decide +kernel
theorem dX6_ended_115 : decode cX6_ended 115 = .ok (.invokevirtual 140, 3) := by decide +kernel
theorem dX6_ended_118 : decode cX6_ended 118 = .ok (.iinc 5 1, 3) := by decide +kernel
theorem dX6_ended_121 : decode cX6_ended 121 = .ok (.goto (-70), 3) := by decide +kernel
theorem dX6_ended_124 : decode cX6_ended 124 = .ok (.iload_n 3, 1) := by decide +kernel
theorem dX6_ended_125 : decode cX6_ended 125 = .ok (.ifCond .ne 11, 3) := by decide +kernel
theorem dX6_ended_128 : decode cX6_ended 128 = .ok (.aload_n 0, 1) := by decide +kernel
theorem dX6_ended_129 : decode cX6_ended 129 = .ok (.getfield 16, 3) := by decide +kernel
theorem dX6_ended_132 : decode cX6_ended 132 = .ok (.getfield 184, 3) := by decide +kernel
theorem dX6_ended_135 : decode cX6_ended 135 = .ok (.ireturn, 1) := by decide +kernel
theorem dX6_ended_136 : decode cX6_ended 136 = .ok (.iload_n 3, 1) := by decide +kernel
theorem dX6_ended_137 : decode cX6_ended 137 = .ok (.iconst 1, 1) := by decide +kernel
theorem dX6_ended_138 : decode cX6_ended 138 = .ok (.if_icmp .ne 19, 3) := by decide +kernel
theorem dX6_ended_141 : decode cX6_ended 141 = .ok (.aload_n 0, 1) := by decide +kernel
theorem dX6_ended_142 : decode cX6_ended 142 = .ok (.getfield 16, 3) := by decide +kernel
theorem dX6_ended_145 : decode cX6_ended 145 = .ok (.getfield 187, 3) := by decide +kernel
theorem dX6_ended_148 : decode cX6_ended 148 = .ok (.aload_n 0, 1) := by decide +kernel
theorem dX6_ended_149 : decode cX6_ended 149 = .ok (.getfield 10, 3) := by decide +kernel
theorem dX6_ended_152 : decode cX6_ended 152 = .ok (.getfield 187, 3) := by decide +kernel
theorem dX6_ended_155 : decode cX6_ended 155 = .ok (.isub, 1) := by decide +kernel
theorem dX6_ended_156 : decode cX6_ended 156 = .ok (.ireturn, 1) := by decide +kernel
theorem dX6_ended_157 : decode cX6_ended 157 = .ok (.aload_n 0, 1) := by decide +kernel
theorem dX6_ended_158 : decode cX6_ended 158 = .ok (.getfield 16, 3) := by decide +kernel
theorem dX6_ended_161 : decode cX6_ended 161 = .ok (.getfield 184, 3) := by decide +kernel
theorem dX6_ended_164 : decode cX6_ended 164 = .ok (.ifCond .ne 16, 3) := by decide +kernel
theorem dX6_ended_167 : decode cX6_ended 167 = .ok (.aload_n 0, 1) := by decide +kernel
theorem dX6_ended_168 : decode cX6_ended 168 = .ok (.getfield 16, 3) := by decide +kernel
theorem dX6_ended_171 : decode cX6_ended 171 = .ok (.getfield 161, 3) := by decide +kernel
theorem dX6_ended_174 : decode cX6_ended 174 = .ok (.getfield 66, 3) := by decide +kernel
theorem dX6_ended_177 : decode cX6_ended 177 = .ok (.goto 13, 3) := by decide +kernel
theorem dX6_ended_180 : decode cX6_ended 180 = .ok (.aload_n 0, 1) := by decide +kernel
theorem dX6_ended_181 : decode cX6_ended 181 = .ok (.getfield 16, 3) := by decide +kernel
theorem dX6_ended_184 : decode cX6_ended 184 = .ok (.getfield 149, 3) := by decide +kernel
theorem dX6_ended_187 : decode cX6_ended 187 = .ok (.getfield 66, 3) := by decide +kernel
theorem dX6_ended_190 : decode cX6_ended 190 = .ok (.ireturn, 1) := by decide +kernel
theorem dX6_undo_0 : decode cX6_undo 0 = .ok (.aload_n 0, 1) := by decide +kernel
theorem dX6_undo_1 : decode cX6_undo 1 = .ok (.getfield 25, 3) := by decide +kernel
theorem dX6_undo_4 : decode cX6_undo 4 = .ok (.aload_n 0, 1) := by decide +kernel
theorem dX6_undo_5 : decode cX6_undo 5 = .ok (.getfield 10, 3) := by decide +kernel
theorem dX6_undo_8 : decode cX6_undo 8 = .ok (.invokevirtual 208, 3) := by decide +kernel
theorem dX6_undo_11 : decode cX6_undo 11 = .ok (.ifCond .eq 13, 3) := by decide +kernel
theorem dX6_undo_14 : decode cX6_undo 14 = .ok (.aload_n 0, 1) := by decide +kernel
theorem dX6_undo_15 : decode cX6_undo 15 = .ok (.getfield 25, 3) := by decide +kernel
theorem dX6_undo_18 : decode cX6_undo 18 = .ok (.getfield 202, 3) := by decide +kernel
theorem dX6_undo_21 : decode cX6_undo 21 = .ok (.goto 5, 3) := by decide +kernel
theorem dX6_undo_24 : decode cX6_undo 24 = .ok (.bipush (-2), 2) := by decide +kernel
theorem dX6_undo_26 : decode cX6_undo 26 = .ok (.ireturn, 1) := by decide +kernel
theorem dX6_save_0 : decode cX6_save 0 = .ok (.aload_n 0, 1) := by decide +kernel
theorem dX6_save_1 : decode cX6_save 1 = .ok (.getfield 19, 3) := by decide +kernel
theorem dX6_save_4 : decode cX6_save 4 = .ok (.aload_n 0, 1) := by decide +kernel
theorem dX6_save_5 : decode cX6_save 5 = .ok (.getfield 10, 3) := by decide +kernel
theorem dX6_save_8 : decode cX6_save 8 = .ok (.invokevirtual 205, 3) := by decide +kernel
theorem dX6_save_11 : decode cX6_save 11 = .ok (.aload_n 0, 1) := by decide +kernel
theorem dX6_save_12 : decode cX6_save 12 = .ok (.iconst 1, 1) := by decide +kernel
theorem dX6_save_13 : decode cX6_save 13 = .ok (.putfield 43, 3) := by decide +kernel
theorem dX6_save_16 : decode cX6_save 16 = .ok (.aload_n 0, 1) := by decide +kernel
theorem dX6_save_17 : decode cX6_save 17 = .ok (.getfield 10, 3) := by decide +kernel
theorem dX6_save_20 : decode cX6_save 20 = .ok (.getfield 187, 3) := by decide +kernel
theorem dX6_save_23 : decode cX6_save 23 = .ok (.ireturn, 1) := by decide +kernel
theorem dX6_restore_0 : decode cX6_restore 0 = .ok (.aload_n 0, 1) := by decide +kernel
theorem dX6_restore_1 : decode cX6_restore 1 = .ok (.getfield 43, 3) := by decide +kernel
theorem dX6_restore_4 : decode cX6_restore 4 = .ok (.ifCond .ne 6, 3) := by decide +kernel
theorem dX6_restore_7 : decode cX6_restore 7 = .ok (.bipush (-2), 2) := by decide +kernel
theorem dX6_restore_9 : decode cX6_restore 9 = .ok (.ireturn, 1) := by decide +kernel
theorem dX6_restore_10 : decode cX6_restore 10 = .ok (.aload_n 0, 1) := by decide +kernel
theorem dX6_restore_11 : decode cX6_restore 11 = .ok (.getfield 25, 3) := by decide +kernel
theorem dX6_restore_14 : decode cX6_restore 14 = .ok (.aload_n 0, 1) := by decide +kernel
theorem dX6_restore_15 : decode cX6_restore 15 = .ok (.getfield 10, 3) := by decide +kernel
theorem dX6_restore_18 : decode cX6_restore 18 = .ok (.invokevirtual 93, 3) := by decide +kernel
theorem dX6_restore_21 : decode cX6_restore 21 = .ok (.aload_n 0, 1) := by decide +kernel
theorem dX6_restore_22 : decode cX6_restore 22 = .ok (.getfield 10, 3) := by decide +kernel
theorem dX6_restore_25 : decode cX6_restore 25 = .ok (.aload_n 0, 1) := by decide +kernel
theorem dX6_restore_26 : decode cX6_restore 26 = .ok (.getfield 19, 3) := by decide +kernel
theorem dX6_restore_29 : decode cX6_restore 29 = .ok (.invokevirtual 205, 3) := by decide +kernel
theorem dX6_restore_32 : decode cX6_restore 32 = .ok (.aload_n 0, 1) := by decide +kernel
theorem dX6_restore_33 : decode cX6_restore 33 = .ok (.getfield 10, 3) := by decide +kernel
theorem dX6_restore_36 : decode cX6_restore 36 = .ok (.getfield 187, 3) := by decide +kernel
theorem dX6_restore_39 : decode cX6_restore 39 = .ok (.ireturn, 1) := by decide +kernel
theorem dX6_makeAsChange_0 : decode cX6_makeAsChange 0 = .ok (.aload_n 0, 1) := by decide +kernel
theorem dX6_makeAsChange_1 : decode cX6_makeAsChange 1 = .ok (.getfield 25, 3) := by decide +kernel
theorem dX6_makeAsChange_4 : decode cX6_makeAsChange 4 = .ok (.aload_n 0, 1) := by decide +kernel
theorem dX6_makeAsChange_5 : decode cX6_makeAsChange 5 = .ok (.getfield 10, 3) := by decide +kernel
theorem dX6_makeAsChange_8 : decode cX6_makeAsChange 8 = .ok (.invokevirtual 93, 3) := by decide +kernel
theorem dX6_makeAsChange_11 : decode cX6_makeAsChange 11 = .ok (.aload_n 0, 1) := by decide +kernel
theorem dX6_makeAsChange_12 : decode cX6_makeAsChange 12 = .ok (.getfield 10, 3) := by decide +kernel
theorem dX6_makeAsChange_15 : decode cX6_makeAsChange 15 = .ok (.iload_n 1, 1) := by decide +kernel
theorem dX6_makeAsChange_16 : decode cX6_makeAsChange 16 = .ok (.invokevirtual 140, 3) := by decide +kernel
theorem dX6_makeAsChange_19 : decode cX6_makeAsChange 19 = .ok (.return_, 1) := by decide +kernel
theorem dX6_preparedWorths_0 : decode cX6_preparedWorths 0 = .ok (.aload_n 0, 1) := by decide +kernel
theorem dX6_preparedWorths_1 : decode cX6_preparedWorths 1 = .ok (.getfield 39, 3) := by decide +kernel
theorem dX6_preparedWorths_4 : decode cX6_preparedWorths 4 = .ok (.aload_n 0, 1) := by decide +kernel
theorem dX6_preparedWorths_5 : decode cX6_preparedWorths 5 = .ok (.getfield 10, 3) := by decide +kernel
theorem dX6_preparedWorths_8 : decode cX6_preparedWorths 8 = .ok (.invokevirtual 212, 3) := by decide +kernel
theorem dX6_preparedWorths_11 : decode cX6_preparedWorths 11 = .ok (.aload_n 0, 1) := by decide +kernel
theorem dX6_preparedWorths_12 : decode cX6_preparedWorths 12 = .ok (.getfield 39, 3) := by decide +kernel
theorem dX6_preparedWorths_15 : decode cX6_preparedWorths 15 = .ok (.areturn, 1) := by decide +kernel
theorem dX6_at_0 : decode cX6_at 0 = .ok (.iload_n 1, 1) := by decide +kernel
theorem dX6_at_1 : decode cX6_at 1 = .ok (.ifCond .lt 15, 3) := by decide +kernel
theorem dX6_at_4 : decode cX6_at 4 = .ok (.iload_n 1, 1) := by decide +kernel
theorem dX6_at_5 : decode cX6_at 5 = .ok (.aload_n 0, 1) := by decide +kernel
theorem dX6_at_6 : decode cX6_at 6 = .ok (.arraylength, 1) := by decide +kernel
theorem dX6_at_7 : decode cX6_at 7 = .ok (.if_icmp .ge 9, 3) := by decide +kernel
theorem dX6_at_10 : decode cX6_at 10 = .ok (.aload_n 0, 1) := by decide +kernel
theorem dX6_at_11 : decode cX6_at 11 = .ok (.iload_n 1, 1) := by decide +kernel
theorem dX6_at_12 : decode cX6_at 12 = .ok (.iaload, 1) := by decide +kernel
theorem dX6_at_13 : decode cX6_at 13 = .ok (.goto 4, 3) := by decide +kernel
theorem dX6_at_16 : decode cX6_at 16 = .ok (.iconst 0, 1) := by decide +kernel
theorem dX6_at_17 : decode cX6_at 17 = .ok (.ireturn, 1) := by decide +kernel
theorem dX6_put_0 : decode cX6_put 0 = .ok (.iload_n 1, 1) := by decide +kernel
theorem dX6_put_1 : decode cX6_put 1 = .ok (.ifCond .lt 13, 3) := by decide +kernel
theorem dX6_put_4 : decode cX6_put 4 = .ok (.iload_n 1, 1) := by decide +kernel
theorem dX6_put_5 : decode cX6_put 5 = .ok (.aload_n 0, 1) := by decide +kernel
theorem dX6_put_6 : decode cX6_put 6 = .ok (.arraylength, 1) := by decide +kernel
theorem dX6_put_7 : decode cX6_put 7 = .ok (.if_icmp .ge 7, 3) := by decide +kernel
theorem dX6_put_10 : decode cX6_put 10 = .ok (.aload_n 0, 1) := by decide +kernel
theorem dX6_put_11 : decode cX6_put 11 = .ok (.iload_n 1, 1) := by decide +kernel
theorem dX6_put_12 : decode cX6_put 12 = .ok (.iload_n 2, 1) := by decide +kernel
theorem dX6_put_13 : decode cX6_put 13 = .ok (.iastore, 1) := by decide +kernel
theorem dX6_put_14 : decode cX6_put 14 = .ok (.return_, 1) := by decide +kernel
theorem dX6_copyRow_0 : decode cX6_copyRow 0 = .ok (.iconst 0, 1) := by decide +kernel
theorem dX6_copyRow_1 : decode cX6_copyRow 1 = .ok (.istore_n 2, 1) := by decide +kernel
theorem dX6_copyRow_2 : decode cX6_copyRow 2 = .ok (.iload_n 2, 1) := by decide +kernel
theorem dX6_copyRow_3 : decode cX6_copyRow 3 = .ok (.aload_n 0, 1) := by decide +kernel
theorem dX6_copyRow_4 : decode cX6_copyRow 4 = .ok (.arraylength, 1) := by decide +kernel
theorem dX6_copyRow_5 : decode cX6_copyRow 5 = .ok (.if_icmp .ge 21, 3) := by decide +kernel
theorem dX6_copyRow_8 : decode cX6_copyRow 8 = .ok (.iload_n 2, 1) := by decide +kernel
theorem dX6_copyRow_9 : decode cX6_copyRow 9 = .ok (.aload_n 1, 1) := by decide +kernel
theorem dX6_copyRow_10 : decode cX6_copyRow 10 = .ok (.arraylength, 1) := by decide +kernel
theorem dX6_copyRow_11 : decode cX6_copyRow 11 = .ok (.if_icmp .ge 15, 3) := by decide +kernel
theorem dX6_copyRow_14 : decode cX6_copyRow 14 = .ok (.aload_n 1, 1) := by decide +kernel
theorem dX6_copyRow_15 : decode cX6_copyRow 15 = .ok (.iload_n 2, 1) := by decide +kernel
theorem dX6_copyRow_16 : decode cX6_copyRow 16 = .ok (.aload_n 0, 1) := by decide +kernel
theorem dX6_copyRow_17 : decode cX6_copyRow 17 = .ok (.iload_n 2, 1) := by decide +kernel
theorem dX6_copyRow_18 : decode cX6_copyRow 18 = .ok (.iaload, 1) := by decide +kernel
theorem dX6_copyRow_19 : decode cX6_copyRow 19 = .ok (.iastore, 1) := by decide +kernel
theorem dX6_copyRow_20 : decode cX6_copyRow 20 = .ok (.iinc 2 1, 3) := by decide +kernel
theorem dX6_copyRow_23 : decode cX6_copyRow 23 = .ok (.goto (-21), 3) := by decide +kernel
theorem dX6_copyRow_26 : decode cX6_copyRow 26 = .ok (.return_, 1) := by decide +kernel
theorem dX6_fillRow_0 : decode cX6_fillRow 0 = .ok (.iconst 0, 1) := by decide +kernel
theorem dX6_fillRow_1 : decode cX6_fillRow 1 = .ok (.istore_n 2, 1) := by decide +kernel
theorem dX6_fillRow_2 : decode cX6_fillRow 2 = .ok (.iload_n 2, 1) := by decide +kernel
theorem dX6_fillRow_3 : decode cX6_fillRow 3 = .ok (.aload_n 0, 1) := by decide +kernel
theorem dX6_fillRow_4 : decode cX6_fillRow 4 = .ok (.arraylength, 1) := by decide +kernel
theorem dX6_fillRow_5 : decode cX6_fillRow 5 = .ok (.if_icmp .ge 13, 3) := by decide +kernel
theorem dX6_fillRow_8 : decode cX6_fillRow 8 = .ok (.aload_n 0, 1) := by decide +kernel
theorem dX6_fillRow_9 : decode cX6_fillRow 9 = .ok (.iload_n 2, 1) := by decide +kernel
theorem dX6_fillRow_10 : decode cX6_fillRow 10 = .ok (.iload_n 1, 1) := by decide +kernel
theorem dX6_fillRow_11 : decode cX6_fillRow 11 = .ok (.iastore, 1) := by decide +kernel
theorem dX6_fillRow_12 : decode cX6_fillRow 12 = .ok (.iinc 2 1, 3) := by decide +kernel
theorem dX6_fillRow_15 : decode cX6_fillRow 15 = .ok (.goto (-13), 3) := by decide +kernel
theorem dX6_fillRow_18 : decode cX6_fillRow 18 = .ok (.return_, 1) := by decide +kernel
theorem dJ6_bitCount_0f7a4_0 : decode cJ6_bitCount_0f7a4 0 = .ok (.iload_n 0, 1) := by decide +kernel
theorem dJ6_bitCount_0f7a4_1 : decode cJ6_bitCount_0f7a4 1 = .ok (.iload_n 0, 1) := by decide +kernel
theorem dJ6_bitCount_0f7a4_2 : decode cJ6_bitCount_0f7a4 2 = .ok (.iconst 1, 1) := by decide +kernel
theorem dJ6_bitCount_0f7a4_3 : decode cJ6_bitCount_0f7a4 3 = .ok (.iushr, 1) := by decide +kernel
theorem dJ6_bitCount_0f7a4_4 : decode cJ6_bitCount_0f7a4 4 = .ok (.ldc_w 265, 3) := by decide +kernel
theorem dJ6_bitCount_0f7a4_7 : decode cJ6_bitCount_0f7a4 7 = .ok (.iand, 1) := by decide +kernel
theorem dJ6_bitCount_0f7a4_8 : decode cJ6_bitCount_0f7a4 8 = .ok (.isub, 1) := by decide +kernel
theorem dJ6_bitCount_0f7a4_9 : decode cJ6_bitCount_0f7a4 9 = .ok (.istore_n 0, 1) := by decide +kernel
theorem dJ6_bitCount_0f7a4_10 : decode cJ6_bitCount_0f7a4 10 = .ok (.iload_n 0, 1) := by decide +kernel
theorem dJ6_bitCount_0f7a4_11 : decode cJ6_bitCount_0f7a4 11 = .ok (.ldc_w 266, 3) := by decide +kernel
theorem dJ6_bitCount_0f7a4_14 : decode cJ6_bitCount_0f7a4 14 = .ok (.iand, 1) := by decide +kernel
theorem dJ6_bitCount_0f7a4_15 : decode cJ6_bitCount_0f7a4 15 = .ok (.iload_n 0, 1) := by decide +kernel
theorem dJ6_bitCount_0f7a4_16 : decode cJ6_bitCount_0f7a4 16 = .ok (.iconst 2, 1) := by decide +kernel
theorem dJ6_bitCount_0f7a4_17 : decode cJ6_bitCount_0f7a4 17 = .ok (.iushr, 1) := by decide +kernel
theorem dJ6_bitCount_0f7a4_18 : decode cJ6_bitCount_0f7a4 18 = .ok (.ldc_w 266, 3) := by decide +kernel
theorem dJ6_bitCount_0f7a4_21 : decode cJ6_bitCount_0f7a4 21 = .ok (.iand, 1) := by decide +kernel
theorem dJ6_bitCount_0f7a4_22 : decode cJ6_bitCount_0f7a4 22 = .ok (.iadd, 1) := by decide +kernel
theorem dJ6_bitCount_0f7a4_23 : decode cJ6_bitCount_0f7a4 23 = .ok (.istore_n 0, 1) := by decide +kernel
theorem dJ6_bitCount_0f7a4_24 : decode cJ6_bitCount_0f7a4 24 = .ok (.iload_n 0, 1) := by decide +kernel
theorem dJ6_bitCount_0f7a4_25 : decode cJ6_bitCount_0f7a4 25 = .ok (.iload_n 0, 1) := by decide +kernel
theorem dJ6_bitCount_0f7a4_26 : decode cJ6_bitCount_0f7a4 26 = .ok (.iconst 4, 1) := by decide +kernel
theorem dJ6_bitCount_0f7a4_27 : decode cJ6_bitCount_0f7a4 27 = .ok (.iushr, 1) := by decide +kernel
theorem dJ6_bitCount_0f7a4_28 : decode cJ6_bitCount_0f7a4 28 = .ok (.iadd, 1) := by decide +kernel
theorem dJ6_bitCount_0f7a4_29 : decode cJ6_bitCount_0f7a4 29 = .ok (.ldc_w 267, 3) := by decide +kernel
theorem dJ6_bitCount_0f7a4_32 : decode cJ6_bitCount_0f7a4 32 = .ok (.iand, 1) := by decide +kernel
theorem dJ6_bitCount_0f7a4_33 : decode cJ6_bitCount_0f7a4 33 = .ok (.istore_n 0, 1) := by decide +kernel
theorem dJ6_bitCount_0f7a4_34 : decode cJ6_bitCount_0f7a4 34 = .ok (.iload_n 0, 1) := by decide +kernel
theorem dJ6_bitCount_0f7a4_35 : decode cJ6_bitCount_0f7a4 35 = .ok (.iload_n 0, 1) := by decide +kernel
theorem dJ6_bitCount_0f7a4_36 : decode cJ6_bitCount_0f7a4 36 = .ok (.bipush 8, 2) := by decide +kernel
theorem dJ6_bitCount_0f7a4_38 : decode cJ6_bitCount_0f7a4 38 = .ok (.iushr, 1) := by decide +kernel
theorem dJ6_bitCount_0f7a4_39 : decode cJ6_bitCount_0f7a4 39 = .ok (.iadd, 1) := by decide +kernel
theorem dJ6_bitCount_0f7a4_40 : decode cJ6_bitCount_0f7a4 40 = .ok (.istore_n 0, 1) := by decide +kernel
theorem dJ6_bitCount_0f7a4_41 : decode cJ6_bitCount_0f7a4 41 = .ok (.iload_n 0, 1) := by decide +kernel
theorem dJ6_bitCount_0f7a4_42 : decode cJ6_bitCount_0f7a4 42 = .ok (.iload_n 0, 1) := by decide +kernel
theorem dJ6_bitCount_0f7a4_43 : decode cJ6_bitCount_0f7a4 43 = .ok (.bipush 16, 2) := by decide +kernel
theorem dJ6_bitCount_0f7a4_45 : decode cJ6_bitCount_0f7a4 45 = .ok (.iushr, 1) := by decide +kernel
theorem dJ6_bitCount_0f7a4_46 : decode cJ6_bitCount_0f7a4 46 = .ok (.iadd, 1) := by decide +kernel
theorem dJ6_bitCount_0f7a4_47 : decode cJ6_bitCount_0f7a4 47 = .ok (.istore_n 0, 1) := by decide +kernel
theorem dJ6_bitCount_0f7a4_48 : decode cJ6_bitCount_0f7a4 48 = .ok (.iload_n 0, 1) := by decide +kernel
theorem dJ6_bitCount_0f7a4_49 : decode cJ6_bitCount_0f7a4 49 = .ok (.bipush 63, 2) := by decide +kernel
theorem dJ6_bitCount_0f7a4_51 : decode cJ6_bitCount_0f7a4 51 = .ok (.iand, 1) := by decide +kernel
theorem dJ6_bitCount_0f7a4_52 : decode cJ6_bitCount_0f7a4 52 = .ok (.ireturn, 1) := by decide +kernel
theorem dJ9_floorMod_7cf53_0 : decode cJ9_floorMod_7cf53 0 = .ok (.iload_n 0, 1) := by decide +kernel
theorem dJ9_floorMod_7cf53_1 : decode cJ9_floorMod_7cf53 1 = .ok (.iload_n 1, 1) := by decide +kernel
theorem dJ9_floorMod_7cf53_2 : decode cJ9_floorMod_7cf53 2 = .ok (.irem, 1) := by decide +kernel
theorem dJ9_floorMod_7cf53_3 : decode cJ9_floorMod_7cf53 3 = .ok (.istore_n 2, 1) := by decide +kernel
theorem dJ9_floorMod_7cf53_4 : decode cJ9_floorMod_7cf53 4 = .ok (.iload_n 0, 1) := by decide +kernel
theorem dJ9_floorMod_7cf53_5 : decode cJ9_floorMod_7cf53 5 = .ok (.iload_n 1, 1) := by decide +kernel
theorem dJ9_floorMod_7cf53_6 : decode cJ9_floorMod_7cf53 6 = .ok (.ixor, 1) := by decide +kernel
theorem dJ9_floorMod_7cf53_7 : decode cJ9_floorMod_7cf53 7 = .ok (.ifCond .ge 11, 3) := by decide +kernel
theorem dJ9_floorMod_7cf53_10 : decode cJ9_floorMod_7cf53 10 = .ok (.iload_n 2, 1) := by decide +kernel
theorem dJ9_floorMod_7cf53_11 : decode cJ9_floorMod_7cf53 11 = .ok (.ifCond .eq 7, 3) := by decide +kernel
theorem dJ9_floorMod_7cf53_14 : decode cJ9_floorMod_7cf53 14 = .ok (.iload_n 2, 1) := by decide +kernel
theorem dJ9_floorMod_7cf53_15 : decode cJ9_floorMod_7cf53 15 = .ok (.iload_n 1, 1) := by decide +kernel
theorem dJ9_floorMod_7cf53_16 : decode cJ9_floorMod_7cf53 16 = .ok (.iadd, 1) := by decide +kernel
theorem dJ9_floorMod_7cf53_17 : decode cJ9_floorMod_7cf53 17 = .ok (.ireturn, 1) := by decide +kernel
theorem dJ9_floorMod_7cf53_18 : decode cJ9_floorMod_7cf53 18 = .ok (.iload_n 2, 1) := by decide +kernel
theorem dJ9_floorMod_7cf53_19 : decode cJ9_floorMod_7cf53 19 = .ok (.ireturn, 1) := by decide +kernel
theorem dJ9_max_7cf53_0 : decode cJ9_max_7cf53 0 = .ok (.iload_n 0, 1) := by decide +kernel
theorem dJ9_max_7cf53_1 : decode cJ9_max_7cf53 1 = .ok (.iload_n 1, 1) := by decide +kernel
theorem dJ9_max_7cf53_2 : decode cJ9_max_7cf53 2 = .ok (.if_icmp .lt 7, 3) := by decide +kernel
theorem dJ9_max_7cf53_5 : decode cJ9_max_7cf53 5 = .ok (.iload_n 0, 1) := by decide +kernel
theorem dJ9_max_7cf53_6 : decode cJ9_max_7cf53 6 = .ok (.goto 4, 3) := by decide +kernel
theorem dJ9_max_7cf53_9 : decode cJ9_max_7cf53 9 = .ok (.iload_n 1, 1) := by decide +kernel
theorem dJ9_max_7cf53_10 : decode cJ9_max_7cf53 10 = .ok (.ireturn, 1) := by decide +kernel
theorem dJ9_min_7cf53_0 : decode cJ9_min_7cf53 0 = .ok (.iload_n 0, 1) := by decide +kernel
theorem dJ9_min_7cf53_1 : decode cJ9_min_7cf53 1 = .ok (.iload_n 1, 1) := by decide +kernel
theorem dJ9_min_7cf53_2 : decode cJ9_min_7cf53 2 = .ok (.if_icmp .gt 7, 3) := by decide +kernel
theorem dJ9_min_7cf53_5 : decode cJ9_min_7cf53 5 = .ok (.iload_n 0, 1) := by decide +kernel
theorem dJ9_min_7cf53_6 : decode cJ9_min_7cf53 6 = .ok (.goto 4, 3) := by decide +kernel
theorem dJ9_min_7cf53_9 : decode cJ9_min_7cf53 9 = .ok (.iload_n 1, 1) := by decide +kernel
theorem dJ9_min_7cf53_10 : decode cJ9_min_7cf53 10 = .ok (.ireturn, 1) := by decide +kernel
theorem dL_cell_0 : decode cL_cell 0 = .ok (.iload_n 1, 1) := by decide +kernel
theorem dL_cell_1 : decode cL_cell 1 = .ok (.aload_n 0, 1) := by decide +kernel
theorem dL_cell_2 : decode cL_cell 2 = .ok (.arraylength, 1) := by decide +kernel
theorem dL_cell_3 : decode cL_cell 3 = .ok (.if_icmp .ge 9, 3) := by decide +kernel
theorem dL_cell_6 : decode cL_cell 6 = .ok (.aload_n 0, 1) := by decide +kernel
theorem dL_cell_7 : decode cL_cell 7 = .ok (.iload_n 1, 1) := by decide +kernel
theorem dL_cell_8 : decode cL_cell 8 = .ok (.iaload, 1) := by decide +kernel
theorem dL_cell_9 : decode cL_cell 9 = .ok (.goto 15, 3) := by decide +kernel
theorem dL_cell_12 : decode cL_cell 12 = .ok (.sipush 7919, 3) := by decide +kernel
theorem dL_cell_15 : decode cL_cell 15 = .ok (.iload_n 1, 1) := by decide +kernel
theorem dL_cell_16 : decode cL_cell 16 = .ok (.iconst 3, 1) := by decide +kernel
theorem dL_cell_17 : decode cL_cell 17 = .ok (.iadd, 1) := by decide +kernel
theorem dL_cell_18 : decode cL_cell 18 = .ok (.imul, 1) := by decide +kernel
theorem dL_cell_19 : decode cL_cell 19 = .ok (.iload_n 1, 1) := by decide +kernel
theorem dL_cell_20 : decode cL_cell 20 = .ok (.bipush 11, 2) := by decide +kernel
theorem dL_cell_22 : decode cL_cell 22 = .ok (.iadd, 1) := by decide +kernel
theorem dL_cell_23 : decode cL_cell 23 = .ok (.imul, 1) := by decide +kernel
theorem dL_cell_24 : decode cL_cell 24 = .ok (.ireturn, 1) := by decide +kernel
theorem dL_low_0 : decode cL_low 0 = .ok (.iload_n 0, 1) := by decide +kernel
theorem dL_low_1 : decode cL_low 1 = .ok (.ldc 7, 2) := by decide +kernel
theorem dL_low_3 : decode cL_low 3 = .ok (.iand, 1) := by decide +kernel
theorem dL_low_4 : decode cL_low 4 = .ok (.iload_n 1, 1) := by decide +kernel
theorem dL_low_5 : decode cL_low 5 = .ok (.irem, 1) := by decide +kernel
theorem dL_low_6 : decode cL_low 6 = .ok (.ireturn, 1) := by decide +kernel
theorem dL_told_0 : decode cL_told 0 = .ok (.ldc2_w 8, 3) := by decide +kernel
theorem dL_told_3 : decode cL_told 3 = .ok (.lstore_n 1, 1) := by decide +kernel
theorem dL_told_4 : decode cL_told 4 = .ok (.iconst 0, 1) := by decide +kernel
theorem dL_told_5 : decode cL_told 5 = .ok (.istore_n 3, 1) := by decide +kernel
theorem dL_told_6 : decode cL_told 6 = .ok (.iload_n 3, 1) := by decide +kernel
theorem dL_told_7 : decode cL_told 7 = .ok (.bipush 12, 2) := by decide +kernel
theorem dL_told_9 : decode cL_told 9 = .ok (.if_icmp .ge 22, 3) := by decide +kernel
theorem dL_told_12 : decode cL_told 12 = .ok (.ldc2_w 10, 3) := by decide +kernel
theorem dL_told_15 : decode cL_told 15 = .ok (.lload_n 1, 1) := by decide +kernel
theorem dL_told_16 : decode cL_told 16 = .ok (.lmul, 1) := by decide +kernel
theorem dL_told_17 : decode cL_told 17 = .ok (.aload_n 0, 1) := by decide +kernel
theorem dL_told_18 : decode cL_told 18 = .ok (.iload_n 3, 1) := by decide +kernel
theorem dL_told_19 : decode cL_told 19 = .ok (.invokevirtual 12, 3) := by decide +kernel
theorem dL_told_22 : decode cL_told 22 = .ok (.i2l, 1) := by decide +kernel
theorem dL_told_23 : decode cL_told 23 = .ok (.ladd, 1) := by decide +kernel
theorem dL_told_24 : decode cL_told 24 = .ok (.lstore_n 1, 1) := by decide +kernel
theorem dL_told_25 : decode cL_told 25 = .ok (.iinc 3 1, 3) := by decide +kernel
theorem dL_told_28 : decode cL_told 28 = .ok (.goto (-22), 3) := by decide +kernel
theorem dL_told_31 : decode cL_told 31 = .ok (.iconst 0, 1) := by decide +kernel
theorem dL_told_32 : decode cL_told 32 = .ok (.istore_n 3, 1) := by decide +kernel
theorem dL_told_33 : decode cL_told 33 = .ok (.iload_n 3, 1) := by decide +kernel
theorem dL_told_34 : decode cL_told 34 = .ok (.bipush 16, 2) := by decide +kernel
theorem dL_told_36 : decode cL_told 36 = .ok (.if_icmp .ge 29, 3) := by decide +kernel
theorem dL_told_39 : decode cL_told 39 = .ok (.ldc2_w 10, 3) := by decide +kernel
theorem dL_told_42 : decode cL_told 42 = .ok (.lload_n 1, 1) := by decide +kernel
theorem dL_told_43 : decode cL_told 43 = .ok (.lmul, 1) := by decide +kernel
theorem dL_told_44 : decode cL_told 44 = .ok (.aload_n 0, 1) := by decide +kernel
theorem dL_told_45 : decode cL_told 45 = .ok (.iload_n 3, 1) := by decide +kernel
theorem dL_told_46 : decode cL_told 46 = .ok (.bipush 8, 2) := by decide +kernel
theorem dL_told_48 : decode cL_told 48 = .ok (.idiv, 1) := by decide +kernel
theorem dL_told_49 : decode cL_told 49 = .ok (.iload_n 3, 1) := by decide +kernel
theorem dL_told_50 : decode cL_told 50 = .ok (.bipush 8, 2) := by decide +kernel
theorem dL_told_52 : decode cL_told 52 = .ok (.irem, 1) := by decide +kernel
theorem dL_told_53 : decode cL_told 53 = .ok (.invokevirtual 18, 3) := by decide +kernel
theorem dL_told_56 : decode cL_told 56 = .ok (.i2l, 1) := by decide +kernel
theorem dL_told_57 : decode cL_told 57 = .ok (.ladd, 1) := by decide +kernel
theorem dL_told_58 : decode cL_told 58 = .ok (.lstore_n 1, 1) := by decide +kernel
theorem dL_told_59 : decode cL_told 59 = .ok (.iinc 3 1, 3) := by decide +kernel
theorem dL_told_62 : decode cL_told 62 = .ok (.goto (-29), 3) := by decide +kernel
theorem dL_told_65 : decode cL_told 65 = .ok (.iconst 1, 1) := by decide +kernel
theorem dL_told_66 : decode cL_told 66 = .ok (.istore_n 3, 1) := by decide +kernel
theorem dL_told_67 : decode cL_told 67 = .ok (.iload_n 3, 1) := by decide +kernel
theorem dL_told_68 : decode cL_told 68 = .ok (.aload_n 0, 1) := by decide +kernel
theorem dL_told_69 : decode cL_told 69 = .ok (.iconst 0, 1) := by decide +kernel
theorem dL_told_70 : decode cL_told 70 = .ok (.invokevirtual 12, 3) := by decide +kernel
theorem dL_told_73 : decode cL_told 73 = .ok (.if_icmp .gt 47, 3) := by decide +kernel
theorem dL_told_76 : decode cL_told 76 = .ok (.ldc2_w 10, 3) := by decide +kernel
theorem dL_told_79 : decode cL_told 79 = .ok (.ldc2_w 10, 3) := by decide +kernel
theorem dL_told_82 : decode cL_told 82 = .ok (.ldc2_w 10, 3) := by decide +kernel
theorem dL_told_85 : decode cL_told 85 = .ok (.lload_n 1, 1) := by decide +kernel
theorem dL_told_86 : decode cL_told 86 = .ok (.lmul, 1) := by decide +kernel
theorem dL_told_87 : decode cL_told 87 = .ok (.aload_n 0, 1) := by decide +kernel
theorem dL_told_88 : decode cL_told 88 = .ok (.iload_n 3, 1) := by decide +kernel
theorem dL_told_89 : decode cL_told 89 = .ok (.iconst 0, 1) := by decide +kernel
theorem dL_told_90 : decode cL_told 90 = .ok (.invokevirtual 22, 3) := by decide +kernel
theorem dL_told_93 : decode cL_told 93 = .ok (.i2l, 1) := by decide +kernel
theorem dL_told_94 : decode cL_told 94 = .ok (.ladd, 1) := by decide +kernel
theorem dL_told_95 : decode cL_told 95 = .ok (.lmul, 1) := by decide +kernel
theorem dL_told_96 : decode cL_told 96 = .ok (.aload_n 0, 1) := by decide +kernel
theorem dL_told_97 : decode cL_told 97 = .ok (.iload_n 3, 1) := by decide +kernel
theorem dL_told_98 : decode cL_told 98 = .ok (.iconst 2, 1) := by decide +kernel
theorem dL_told_99 : decode cL_told 99 = .ok (.invokevirtual 22, 3) := by decide +kernel
theorem dL_told_102 : decode cL_told 102 = .ok (.i2l, 1) := by decide +kernel
theorem dL_told_103 : decode cL_told 103 = .ok (.ladd, 1) := by decide +kernel
theorem dL_told_104 : decode cL_told 104 = .ok (.lmul, 1) := by decide +kernel
theorem dL_told_105 : decode cL_told 105 = .ok (.aload_n 0, 1) := by decide +kernel
theorem dL_told_106 : decode cL_told 106 = .ok (.iload_n 3, 1) := by decide +kernel
theorem dL_told_107 : decode cL_told 107 = .ok (.iconst 3, 1) := by decide +kernel
theorem dL_told_108 : decode cL_told 108 = .ok (.invokevirtual 22, 3) := by decide +kernel
theorem dL_told_111 : decode cL_told 111 = .ok (.i2l, 1) := by decide +kernel
theorem dL_told_112 : decode cL_told 112 = .ok (.ladd, 1) := by decide +kernel
theorem dL_told_113 : decode cL_told 113 = .ok (.lstore_n 1, 1) := by decide +kernel
theorem dL_told_114 : decode cL_told 114 = .ok (.iinc 3 1, 3) := by decide +kernel
theorem dL_told_117 : decode cL_told 117 = .ok (.goto (-50), 3) := by decide +kernel
theorem dL_told_120 : decode cL_told 120 = .ok (.lload_n 1, 1) := by decide +kernel
theorem dL_told_121 : decode cL_told 121 = .ok (.lreturn, 1) := by decide +kernel
theorem dL_act_0 : decode cL_act 0 = .ok (.iload_n 1, 1) := by decide +kernel
theorem dL_act_1 : decode cL_act 1 = .ok (.bipush 15, 2) := by decide +kernel
theorem dL_act_3 : decode cL_act 3 = .ok (.iand, 1) := by decide +kernel
theorem dL_act_4 : decode cL_act 4 = .ok (.tableswitch 206 0 9 #[56, 74, 92, 178, 178, 183, 183, 183, 188, 188], 56) := by decide +kernel
theorem dL_act_60 : decode cL_act 60 = .ok (.iload_n 2, 1) := by decide +kernel
theorem dL_act_61 : decode cL_act 61 = .ok (.iconst 1, 1) := by decide +kernel
theorem dL_act_62 : decode cL_act 62 = .ok (.iand, 1) := by decide +kernel
theorem dL_act_63 : decode cL_act 63 = .ok (.ifCond .ne 10, 3) := by decide +kernel
theorem dL_act_66 : decode cL_act 66 = .ok (.aload_n 0, 1) := by decide +kernel
theorem dL_act_67 : decode cL_act 67 = .ok (.invokevirtual 25, 3) := by decide +kernel
theorem dL_act_70 : decode cL_act 70 = .ok (.goto 7, 3) := by decide +kernel
theorem dL_act_73 : decode cL_act 73 = .ok (.aload_n 0, 1) := by decide +kernel
theorem dL_act_74 : decode cL_act 74 = .ok (.invokevirtual 29, 3) := by decide +kernel
theorem dL_act_77 : decode cL_act 77 = .ok (.ireturn, 1) := by decide +kernel
theorem dL_act_78 : decode cL_act 78 = .ok (.aload_n 0, 1) := by decide +kernel
theorem dL_act_79 : decode cL_act 79 = .ok (.iload_n 2, 1) := by decide +kernel
theorem dL_act_80 : decode cL_act 80 = .ok (.iconst 3, 1) := by decide +kernel
theorem dL_act_81 : decode cL_act 81 = .ok (.invokestatic 32, 3) := by decide +kernel
theorem dL_act_84 : decode cL_act 84 = .ok (.iload_n 2, 1) := by decide +kernel
theorem dL_act_85 : decode cL_act 85 = .ok (.iconst 2, 1) := by decide +kernel
theorem dL_act_86 : decode cL_act 86 = .ok (.ishr, 1) := by decide +kernel
theorem dL_act_87 : decode cL_act 87 = .ok (.bipush 6, 2) := by decide +kernel
theorem dL_act_89 : decode cL_act 89 = .ok (.invokestatic 32, 3) := by decide +kernel
theorem dL_act_92 : decode cL_act 92 = .ok (.invokevirtual 37, 3) := by decide +kernel
theorem dL_act_95 : decode cL_act 95 = .ok (.ireturn, 1) := by decide +kernel
theorem dL_act_96 : decode cL_act 96 = .ok (.aload_n 0, 1) := by decide +kernel
theorem dL_act_97 : decode cL_act 97 = .ok (.invokevirtual 40, 3) := by decide +kernel
theorem dL_act_100 : decode cL_act 100 = .ok (.pop, 1) := by decide +kernel
theorem dL_act_101 : decode cL_act 101 = .ok (.iconst 1, 1) := by decide +kernel
theorem dL_act_102 : decode cL_act 102 = .ok (.iload_n 2, 1) := by decide +kernel
theorem dL_act_103 : decode cL_act 103 = .ok (.bipush 12, 2) := by decide +kernel
theorem dL_act_105 : decode cL_act 105 = .ok (.invokestatic 32, 3) := by decide +kernel
theorem dL_act_108 : decode cL_act 108 = .ok (.iadd, 1) := by decide +kernel
theorem dL_act_109 : decode cL_act 109 = .ok (.istore_n 3, 1) := by decide +kernel
theorem dL_act_110 : decode cL_act 110 = .ok (.iconst 0, 1) := by decide +kernel
theorem dL_act_111 : decode cL_act 111 = .ok (.istore 4, 2) := by decide +kernel
theorem dL_act_113 : decode cL_act 113 = .ok (.iload 4, 2) := by decide +kernel
theorem dL_act_115 : decode cL_act 115 = .ok (.iload_n 3, 1) := by decide +kernel
theorem dL_act_116 : decode cL_act 116 = .ok (.if_icmp .ge 61, 3) := by decide +kernel
theorem dL_act_119 : decode cL_act 119 = .ok (.iload_n 2, 1) := by decide +kernel
theorem dL_act_120 : decode cL_act 120 = .ok (.iconst 4, 1) := by decide +kernel
theorem dL_act_121 : decode cL_act 121 = .ok (.iload 4, 2) := by decide +kernel
theorem dL_act_123 : decode cL_act 123 = .ok (.iadd, 1) := by decide +kernel
theorem dL_act_124 : decode cL_act 124 = .ok (.ishr, 1) := by decide +kernel
theorem dL_act_125 : decode cL_act 125 = .ok (.iconst 5, 1) := by decide +kernel
theorem dL_act_126 : decode cL_act 126 = .ok (.invokestatic 32, 3) := by decide +kernel
theorem dL_act_129 : decode cL_act 129 = .ok (.istore 5, 2) := by decide +kernel
theorem dL_act_131 : decode cL_act 131 = .ok (.aload_n 0, 1) := by decide +kernel
theorem dL_act_132 : decode cL_act 132 = .ok (.iload 5, 2) := by decide +kernel
theorem dL_act_134 : decode cL_act 134 = .ok (.iconst 1, 1) := by decide +kernel
theorem dL_act_135 : decode cL_act 135 = .ok (.if_icmp .ne 8, 3) := by decide +kernel
theorem dL_act_138 : decode cL_act 138 = .ok (.bipush 109, 2) := by decide +kernel
theorem dL_act_140 : decode cL_act 140 = .ok (.goto 27, 3) := by decide +kernel
theorem dL_act_143 : decode cL_act 143 = .ok (.iload 5, 2) := by decide +kernel
theorem dL_act_145 : decode cL_act 145 = .ok (.iconst 2, 1) := by decide +kernel
theorem dL_act_146 : decode cL_act 146 = .ok (.if_icmp .ne 8, 3) := by decide +kernel
theorem dL_act_149 : decode cL_act 149 = .ok (.bipush 115, 2) := by decide +kernel
theorem dL_act_151 : decode cL_act 151 = .ok (.goto 16, 3) := by decide +kernel
theorem dL_act_154 : decode cL_act 154 = .ok (.iload 5, 2) := by decide +kernel
theorem dL_act_156 : decode cL_act 156 = .ok (.iconst 3, 1) := by decide +kernel
theorem dL_act_157 : decode cL_act 157 = .ok (.if_icmp .ne 8, 3) := by decide +kernel
theorem dL_act_160 : decode cL_act 160 = .ok (.bipush 105, 2) := by decide +kernel
theorem dL_act_162 : decode cL_act 162 = .ok (.goto 5, 3) := by decide +kernel
theorem dL_act_165 : decode cL_act 165 = .ok (.bipush 46, 2) := by decide +kernel
theorem dL_act_167 : decode cL_act 167 = .ok (.invokevirtual 43, 3) := by decide +kernel
theorem dL_act_170 : decode cL_act 170 = .ok (.pop, 1) := by decide +kernel
theorem dL_act_171 : decode cL_act 171 = .ok (.iinc 4 1, 3) := by decide +kernel
theorem dL_act_174 : decode cL_act 174 = .ok (.goto (-61), 3) := by decide +kernel
theorem dL_act_177 : decode cL_act 177 = .ok (.aload_n 0, 1) := by decide +kernel
theorem dL_act_178 : decode cL_act 178 = .ok (.invokevirtual 46, 3) := by decide +kernel
theorem dL_act_181 : decode cL_act 181 = .ok (.ireturn, 1) := by decide +kernel
theorem dL_act_182 : decode cL_act 182 = .ok (.aload_n 0, 1) := by decide +kernel
theorem dL_act_183 : decode cL_act 183 = .ok (.invokevirtual 49, 3) := by decide +kernel
theorem dL_act_186 : decode cL_act 186 = .ok (.ireturn, 1) := by decide +kernel
theorem dL_act_187 : decode cL_act 187 = .ok (.aload_n 0, 1) := by decide +kernel
theorem dL_act_188 : decode cL_act 188 = .ok (.invokevirtual 52, 3) := by decide +kernel
theorem dL_act_191 : decode cL_act 191 = .ok (.ireturn, 1) := by decide +kernel
theorem dL_act_192 : decode cL_act 192 = .ok (.iload_n 2, 1) := by decide +kernel
theorem dL_act_193 : decode cL_act 193 = .ok (.iconst 3, 1) := by decide +kernel
theorem dL_act_194 : decode cL_act 194 = .ok (.iand, 1) := by decide +kernel
theorem dL_act_195 : decode cL_act 195 = .ok (.ifCond .ne 10, 3) := by decide +kernel
theorem dL_act_198 : decode cL_act 198 = .ok (.aload_n 0, 1) := by decide +kernel
theorem dL_act_199 : decode cL_act 199 = .ok (.invokevirtual 55, 3) := by decide +kernel
theorem dL_act_202 : decode cL_act 202 = .ok (.goto 7, 3) := by decide +kernel
theorem dL_act_205 : decode cL_act 205 = .ok (.aload_n 0, 1) := by decide +kernel
theorem dL_act_206 : decode cL_act 206 = .ok (.invokevirtual 58, 3) := by decide +kernel
theorem dL_act_209 : decode cL_act 209 = .ok (.ireturn, 1) := by decide +kernel
theorem dL_act_210 : decode cL_act 210 = .ok (.aload_n 0, 1) := by decide +kernel
theorem dL_act_211 : decode cL_act 211 = .ok (.iload_n 2, 1) := by decide +kernel
theorem dL_act_212 : decode cL_act 212 = .ok (.bipush 6, 2) := by decide +kernel
theorem dL_act_214 : decode cL_act 214 = .ok (.invokestatic 32, 3) := by decide +kernel
theorem dL_act_217 : decode cL_act 217 = .ok (.invokevirtual 61, 3) := by decide +kernel
theorem dL_act_220 : decode cL_act 220 = .ok (.ireturn, 1) := by decide +kernel
theorem dL_holds_0 : decode cL_holds 0 = .ok (.aload_n 0, 1) := by decide +kernel
theorem dL_holds_1 : decode cL_holds 1 = .ok (.iconst 0, 1) := by decide +kernel
theorem dL_holds_2 : decode cL_holds 2 = .ok (.invokevirtual 12, 3) := by decide +kernel
theorem dL_holds_5 : decode cL_holds 5 = .ok (.istore_n 1, 1) := by decide +kernel
theorem dL_holds_6 : decode cL_holds 6 = .ok (.aload_n 0, 1) := by decide +kernel
theorem dL_holds_7 : decode cL_holds 7 = .ok (.iconst 0, 1) := by decide +kernel
theorem dL_holds_8 : decode cL_holds 8 = .ok (.iconst 0, 1) := by decide +kernel
theorem dL_holds_9 : decode cL_holds 9 = .ok (.invokevirtual 18, 3) := by decide +kernel
theorem dL_holds_12 : decode cL_holds 12 = .ok (.istore_n 2, 1) := by decide +kernel
theorem dL_holds_13 : decode cL_holds 13 = .ok (.aload_n 0, 1) := by decide +kernel
theorem dL_holds_14 : decode cL_holds 14 = .ok (.iconst 1, 1) := by decide +kernel
theorem dL_holds_15 : decode cL_holds 15 = .ok (.iconst 0, 1) := by decide +kernel
theorem dL_holds_16 : decode cL_holds 16 = .ok (.invokevirtual 18, 3) := by decide +kernel
theorem dL_holds_19 : decode cL_holds 19 = .ok (.istore_n 3, 1) := by decide +kernel
theorem dL_holds_20 : decode cL_holds 20 = .ok (.iconst 0, 1) := by decide +kernel
theorem dL_holds_21 : decode cL_holds 21 = .ok (.istore 4, 2) := by decide +kernel
theorem dL_holds_23 : decode cL_holds 23 = .ok (.iconst 0, 1) := by decide +kernel
theorem dL_holds_24 : decode cL_holds 24 = .ok (.istore 5, 2) := by decide +kernel
theorem dL_holds_26 : decode cL_holds 26 = .ok (.iconst 1, 1) := by decide +kernel
theorem dL_holds_27 : decode cL_holds 27 = .ok (.istore 6, 2) := by decide +kernel
theorem dL_holds_29 : decode cL_holds 29 = .ok (.iload 6, 2) := by decide +kernel
theorem dL_holds_31 : decode cL_holds 31 = .ok (.iload_n 1, 1) := by decide +kernel
theorem dL_holds_32 : decode cL_holds 32 = .ok (.if_icmp .gt 113, 3) := by decide +kernel
theorem dL_holds_35 : decode cL_holds 35 = .ok (.aload_n 0, 1) := by decide +kernel
theorem dL_holds_36 : decode cL_holds 36 = .ok (.iload 6, 2) := by decide +kernel
theorem dL_holds_38 : decode cL_holds 38 = .ok (.iconst 0, 1) := by decide +kernel
theorem dL_holds_39 : decode cL_holds 39 = .ok (.invokevirtual 22, 3) := by decide +kernel
theorem dL_holds_42 : decode cL_holds 42 = .ok (.istore 7, 2) := by decide +kernel
theorem dL_holds_44 : decode cL_holds 44 = .ok (.iload 4, 2) := by decide +kernel
theorem dL_holds_46 : decode cL_holds 46 = .ok (.iload 7, 2) := by decide +kernel
theorem dL_holds_48 : decode cL_holds 48 = .ok (.iconst 2, 1) := by decide +kernel
theorem dL_holds_49 : decode cL_holds 49 = .ok (.if_icmp .ne 21, 3) := by decide +kernel
theorem dL_holds_52 : decode cL_holds 52 = .ok (.aload_n 0, 1) := by decide +kernel
theorem dL_holds_53 : decode cL_holds 53 = .ok (.iload 6, 2) := by decide +kernel
theorem dL_holds_55 : decode cL_holds 55 = .ok (.iconst 2, 1) := by decide +kernel
theorem dL_holds_56 : decode cL_holds 56 = .ok (.invokevirtual 22, 3) := by decide +kernel
theorem dL_holds_59 : decode cL_holds 59 = .ok (.aload_n 0, 1) := by decide +kernel
theorem dL_holds_60 : decode cL_holds 60 = .ok (.iload 6, 2) := by decide +kernel
theorem dL_holds_62 : decode cL_holds 62 = .ok (.iconst 3, 1) := by decide +kernel
theorem dL_holds_63 : decode cL_holds 63 = .ok (.invokevirtual 22, 3) := by decide +kernel
theorem dL_holds_66 : decode cL_holds 66 = .ok (.iadd, 1) := by decide +kernel
theorem dL_holds_67 : decode cL_holds 67 = .ok (.goto 4, 3) := by decide +kernel
theorem dL_holds_70 : decode cL_holds 70 = .ok (.iconst 0, 1) := by decide +kernel
theorem dL_holds_71 : decode cL_holds 71 = .ok (.iadd, 1) := by decide +kernel
theorem dL_holds_72 : decode cL_holds 72 = .ok (.istore 4, 2) := by decide +kernel
theorem dL_holds_74 : decode cL_holds 74 = .ok (.iload 5, 2) := by decide +kernel
theorem dL_holds_76 : decode cL_holds 76 = .ok (.iload 7, 2) := by decide +kernel
theorem dL_holds_78 : decode cL_holds 78 = .ok (.ifCond .le 7, 3) := by decide +kernel
theorem dL_holds_81 : decode cL_holds 81 = .ok (.iconst 1, 1) := by decide +kernel
theorem dL_holds_82 : decode cL_holds 82 = .ok (.goto 4, 3) := by decide +kernel
theorem dL_holds_85 : decode cL_holds 85 = .ok (.iconst 0, 1) := by decide +kernel
theorem dL_holds_86 : decode cL_holds 86 = .ok (.iadd, 1) := by decide +kernel
theorem dL_holds_87 : decode cL_holds 87 = .ok (.istore 5, 2) := by decide +kernel
theorem dL_holds_89 : decode cL_holds 89 = .ok (.aload_n 0, 1) := by decide +kernel
theorem dL_holds_90 : decode cL_holds 90 = .ok (.iload 6, 2) := by decide +kernel
theorem dL_holds_92 : decode cL_holds 92 = .ok (.iconst 1, 1) := by decide +kernel
theorem dL_holds_93 : decode cL_holds 93 = .ok (.invokevirtual 22, 3) := by decide +kernel
theorem dL_holds_96 : decode cL_holds 96 = .ok (.iload_n 2, 1) := by decide +kernel
theorem dL_holds_97 : decode cL_holds 97 = .ok (.iload 6, 2) := by decide +kernel
theorem dL_holds_99 : decode cL_holds 99 = .ok (.if_icmp .ne 7, 3) := by decide +kernel
theorem dL_holds_102 : decode cL_holds 102 = .ok (.iconst 0, 1) := by decide +kernel
theorem dL_holds_103 : decode cL_holds 103 = .ok (.goto 15, 3) := by decide +kernel
theorem dL_holds_106 : decode cL_holds 106 = .ok (.iload_n 3, 1) := by decide +kernel
theorem dL_holds_107 : decode cL_holds 107 = .ok (.iload 6, 2) := by decide +kernel
theorem dL_holds_109 : decode cL_holds 109 = .ok (.if_icmp .ne 7, 3) := by decide +kernel
theorem dL_holds_112 : decode cL_holds 112 = .ok (.iconst 1, 1) := by decide +kernel
theorem dL_holds_113 : decode cL_holds 113 = .ok (.goto 5, 3) := by decide +kernel
theorem dL_holds_116 : decode cL_holds 116 = .ok (.bipush (-4), 2) := by decide +kernel
theorem dL_holds_118 : decode cL_holds 118 = .ok (.if_icmp .ne 19, 3) := by decide +kernel
theorem dL_holds_121 : decode cL_holds 121 = .ok (.iload 7, 2) := by decide +kernel
theorem dL_holds_123 : decode cL_holds 123 = .ok (.iconst 2, 1) := by decide +kernel
theorem dL_holds_124 : decode cL_holds 124 = .ok (.if_icmp .ne 15, 3) := by decide +kernel
theorem dL_holds_127 : decode cL_holds 127 = .ok (.aload_n 0, 1) := by decide +kernel
theorem dL_holds_128 : decode cL_holds 128 = .ok (.iload 6, 2) := by decide +kernel
theorem dL_holds_130 : decode cL_holds 130 = .ok (.iconst 1, 1) := by decide +kernel
theorem dL_holds_131 : decode cL_holds 131 = .ok (.invokevirtual 22, 3) := by decide +kernel
theorem dL_holds_134 : decode cL_holds 134 = .ok (.ifCond .lt 5, 3) := by decide +kernel
theorem dL_holds_137 : decode cL_holds 137 = .ok (.iconst 0, 1) := by decide +kernel
theorem dL_holds_138 : decode cL_holds 138 = .ok (.ireturn, 1) := by decide +kernel
theorem dL_holds_139 : decode cL_holds 139 = .ok (.iinc 6 1, 3) := by decide +kernel
theorem dL_holds_142 : decode cL_holds 142 = .ok (.goto (-113), 3) := by decide +kernel
theorem dL_holds_145 : decode cL_holds 145 = .ok (.iload_n 2, 1) := by decide +kernel
theorem dL_holds_146 : decode cL_holds 146 = .ok (.iload_n 3, 1) := by decide +kernel
theorem dL_holds_147 : decode cL_holds 147 = .ok (.if_icmp .ne 7, 3) := by decide +kernel
theorem dL_holds_150 : decode cL_holds 150 = .ok (.iload_n 2, 1) := by decide +kernel
theorem dL_holds_151 : decode cL_holds 151 = .ok (.ifCond .ne 7, 3) := by decide +kernel
theorem dL_holds_154 : decode cL_holds 154 = .ok (.iconst 1, 1) := by decide +kernel
theorem dL_holds_155 : decode cL_holds 155 = .ok (.goto 4, 3) := by decide +kernel
theorem dL_holds_158 : decode cL_holds 158 = .ok (.iconst 0, 1) := by decide +kernel
theorem dL_holds_159 : decode cL_holds 159 = .ok (.istore 6, 2) := by decide +kernel
theorem dL_holds_161 : decode cL_holds 161 = .ok (.iload_n 2, 1) := by decide +kernel
theorem dL_holds_162 : decode cL_holds 162 = .ok (.iload_n 1, 1) := by decide +kernel
theorem dL_holds_163 : decode cL_holds 163 = .ok (.if_icmp .gt 8, 3) := by decide +kernel
theorem dL_holds_166 : decode cL_holds 166 = .ok (.iload_n 3, 1) := by decide +kernel
theorem dL_holds_167 : decode cL_holds 167 = .ok (.iload_n 1, 1) := by decide +kernel
theorem dL_holds_168 : decode cL_holds 168 = .ok (.if_icmp .le 7, 3) := by decide +kernel
theorem dL_holds_171 : decode cL_holds 171 = .ok (.iconst 1, 1) := by decide +kernel
theorem dL_holds_172 : decode cL_holds 172 = .ok (.goto 4, 3) := by decide +kernel
theorem dL_holds_175 : decode cL_holds 175 = .ok (.iconst 0, 1) := by decide +kernel
theorem dL_holds_176 : decode cL_holds 176 = .ok (.istore 7, 2) := by decide +kernel
theorem dL_holds_178 : decode cL_holds 178 = .ok (.aload_n 0, 1) := by decide +kernel
theorem dL_holds_179 : decode cL_holds 179 = .ok (.iconst 2, 1) := by decide +kernel
theorem dL_holds_180 : decode cL_holds 180 = .ok (.invokevirtual 12, 3) := by decide +kernel
theorem dL_holds_183 : decode cL_holds 183 = .ok (.iload_n 2, 1) := by decide +kernel
theorem dL_holds_184 : decode cL_holds 184 = .ok (.iload_n 1, 1) := by decide +kernel
theorem dL_holds_185 : decode cL_holds 185 = .ok (.if_icmp .le 7, 3) := by decide +kernel
theorem dL_holds_188 : decode cL_holds 188 = .ok (.iconst 0, 1) := by decide +kernel
theorem dL_holds_189 : decode cL_holds 189 = .ok (.goto 14, 3) := by decide +kernel
theorem dL_holds_192 : decode cL_holds 192 = .ok (.iload_n 3, 1) := by decide +kernel
theorem dL_holds_193 : decode cL_holds 193 = .ok (.iload_n 1, 1) := by decide +kernel
theorem dL_holds_194 : decode cL_holds 194 = .ok (.if_icmp .le 7, 3) := by decide +kernel
theorem dL_holds_197 : decode cL_holds 197 = .ok (.iconst 1, 1) := by decide +kernel
theorem dL_holds_198 : decode cL_holds 198 = .ok (.goto 5, 3) := by decide +kernel
theorem dL_holds_201 : decode cL_holds 201 = .ok (.bipush (-4), 2) := by decide +kernel
theorem dL_holds_203 : decode cL_holds 203 = .ok (.if_icmp .ne 25, 3) := by decide +kernel
theorem dL_holds_206 : decode cL_holds 206 = .ok (.aload_n 0, 1) := by decide +kernel
theorem dL_holds_207 : decode cL_holds 207 = .ok (.iconst 1, 1) := by decide +kernel
theorem dL_holds_208 : decode cL_holds 208 = .ok (.invokevirtual 12, 3) := by decide +kernel
theorem dL_holds_211 : decode cL_holds 211 = .ok (.ifCond .ge 7, 3) := by decide +kernel
theorem dL_holds_214 : decode cL_holds 214 = .ok (.iconst 1, 1) := by decide +kernel
theorem dL_holds_215 : decode cL_holds 215 = .ok (.goto 4, 3) := by decide +kernel
theorem dL_holds_218 : decode cL_holds 218 = .ok (.iconst 0, 1) := by decide +kernel
theorem dL_holds_219 : decode cL_holds 219 = .ok (.iload 7, 2) := by decide +kernel
theorem dL_holds_221 : decode cL_holds 221 = .ok (.if_icmp .ne 7, 3) := by decide +kernel
theorem dL_holds_224 : decode cL_holds 224 = .ok (.iconst 1, 1) := by decide +kernel
theorem dL_holds_225 : decode cL_holds 225 = .ok (.goto 4, 3) := by decide +kernel
theorem dL_holds_228 : decode cL_holds 228 = .ok (.iconst 0, 1) := by decide +kernel
theorem dL_holds_229 : decode cL_holds 229 = .ok (.istore 8, 2) := by decide +kernel
theorem dL_holds_231 : decode cL_holds 231 = .ok (.aload_n 0, 1) := by decide +kernel
theorem dL_holds_232 : decode cL_holds 232 = .ok (.iconst 0, 1) := by decide +kernel
theorem dL_holds_233 : decode cL_holds 233 = .ok (.iconst 3, 1) := by decide +kernel
theorem dL_holds_234 : decode cL_holds 234 = .ok (.invokevirtual 18, 3) := by decide +kernel
theorem dL_holds_237 : decode cL_holds 237 = .ok (.aload_n 0, 1) := by decide +kernel
theorem dL_holds_238 : decode cL_holds 238 = .ok (.iconst 1, 1) := by decide +kernel
theorem dL_holds_239 : decode cL_holds 239 = .ok (.iconst 3, 1) := by decide +kernel
theorem dL_holds_240 : decode cL_holds 240 = .ok (.invokevirtual 18, 3) := by decide +kernel
theorem dL_holds_243 : decode cL_holds 243 = .ok (.iadd, 1) := by decide +kernel
theorem dL_holds_244 : decode cL_holds 244 = .ok (.aload_n 0, 1) := by decide +kernel
theorem dL_holds_245 : decode cL_holds 245 = .ok (.iconst 3, 1) := by decide +kernel
theorem dL_holds_246 : decode cL_holds 246 = .ok (.invokevirtual 12, 3) := by decide +kernel
theorem dL_holds_249 : decode cL_holds 249 = .ok (.if_icmp .ne 40, 3) := by decide +kernel
theorem dL_holds_252 : decode cL_holds 252 = .ok (.aload_n 0, 1) := by decide +kernel
theorem dL_holds_253 : decode cL_holds 253 = .ok (.iconst 0, 1) := by decide +kernel
theorem dL_holds_254 : decode cL_holds 254 = .ok (.iconst 3, 1) := by decide +kernel
theorem dL_holds_255 : decode cL_holds 255 = .ok (.invokevirtual 18, 3) := by decide +kernel
theorem dL_holds_258 : decode cL_holds 258 = .ok (.aload_n 0, 1) := by decide +kernel
theorem dL_holds_259 : decode cL_holds 259 = .ok (.iconst 1, 1) := by decide +kernel
theorem dL_holds_260 : decode cL_holds 260 = .ok (.iconst 3, 1) := by decide +kernel
theorem dL_holds_261 : decode cL_holds 261 = .ok (.invokevirtual 18, 3) := by decide +kernel
theorem dL_holds_264 : decode cL_holds 264 = .ok (.isub, 1) := by decide +kernel
theorem dL_holds_265 : decode cL_holds 265 = .ok (.ifCond .lt 24, 3) := by decide +kernel
theorem dL_holds_268 : decode cL_holds 268 = .ok (.aload_n 0, 1) := by decide +kernel
theorem dL_holds_269 : decode cL_holds 269 = .ok (.iconst 0, 1) := by decide +kernel
theorem dL_holds_270 : decode cL_holds 270 = .ok (.iconst 3, 1) := by decide +kernel
theorem dL_holds_271 : decode cL_holds 271 = .ok (.invokevirtual 18, 3) := by decide +kernel
theorem dL_holds_274 : decode cL_holds 274 = .ok (.aload_n 0, 1) := by decide +kernel
theorem dL_holds_275 : decode cL_holds 275 = .ok (.iconst 1, 1) := by decide +kernel
theorem dL_holds_276 : decode cL_holds 276 = .ok (.iconst 3, 1) := by decide +kernel
theorem dL_holds_277 : decode cL_holds 277 = .ok (.invokevirtual 18, 3) := by decide +kernel
theorem dL_holds_280 : decode cL_holds 280 = .ok (.isub, 1) := by decide +kernel
theorem dL_holds_281 : decode cL_holds 281 = .ok (.iconst 1, 1) := by decide +kernel
theorem dL_holds_282 : decode cL_holds 282 = .ok (.if_icmp .gt 7, 3) := by decide +kernel
theorem dL_holds_285 : decode cL_holds 285 = .ok (.iconst 1, 1) := by decide +kernel
theorem dL_holds_286 : decode cL_holds 286 = .ok (.goto 4, 3) := by decide +kernel
theorem dL_holds_289 : decode cL_holds 289 = .ok (.iconst 0, 1) := by decide +kernel
theorem dL_holds_290 : decode cL_holds 290 = .ok (.istore 9, 2) := by decide +kernel
theorem dL_holds_292 : decode cL_holds 292 = .ok (.iconst 0, 1) := by decide +kernel
theorem dL_holds_293 : decode cL_holds 293 = .ok (.istore 10, 2) := by decide +kernel
theorem dL_holds_295 : decode cL_holds 295 = .ok (.iload 10, 2) := by decide +kernel
theorem dL_holds_297 : decode cL_holds 297 = .ok (.iconst 2, 1) := by decide +kernel
theorem dL_holds_298 : decode cL_holds 298 = .ok (.if_icmp .ge 62, 3) := by decide +kernel
theorem dL_holds_301 : decode cL_holds 301 = .ok (.aload_n 0, 1) := by decide +kernel
theorem dL_holds_302 : decode cL_holds 302 = .ok (.iload 10, 2) := by decide +kernel
theorem dL_holds_304 : decode cL_holds 304 = .ok (.iconst 4, 1) := by decide +kernel
theorem dL_holds_305 : decode cL_holds 305 = .ok (.invokevirtual 18, 3) := by decide +kernel
theorem dL_holds_308 : decode cL_holds 308 = .ok (.aload_n 0, 1) := by decide +kernel
theorem dL_holds_309 : decode cL_holds 309 = .ok (.iload 10, 2) := by decide +kernel
theorem dL_holds_311 : decode cL_holds 311 = .ok (.iconst 3, 1) := by decide +kernel
theorem dL_holds_312 : decode cL_holds 312 = .ok (.invokevirtual 18, 3) := by decide +kernel
theorem dL_holds_315 : decode cL_holds 315 = .ok (.if_icmp .gt 37, 3) := by decide +kernel
theorem dL_holds_318 : decode cL_holds 318 = .ok (.aload_n 0, 1) := by decide +kernel
theorem dL_holds_319 : decode cL_holds 319 = .ok (.iload 10, 2) := by decide +kernel
theorem dL_holds_321 : decode cL_holds 321 = .ok (.iconst 2, 1) := by decide +kernel
theorem dL_holds_322 : decode cL_holds 322 = .ok (.invokevirtual 18, 3) := by decide +kernel
theorem dL_holds_325 : decode cL_holds 325 = .ok (.ifCond .lt 27, 3) := by decide +kernel
theorem dL_holds_328 : decode cL_holds 328 = .ok (.aload_n 0, 1) := by decide +kernel
theorem dL_holds_329 : decode cL_holds 329 = .ok (.iload 10, 2) := by decide +kernel
theorem dL_holds_331 : decode cL_holds 331 = .ok (.iconst 2, 1) := by decide +kernel
theorem dL_holds_332 : decode cL_holds 332 = .ok (.invokevirtual 18, 3) := by decide +kernel
theorem dL_holds_335 : decode cL_holds 335 = .ok (.iconst 3, 1) := by decide +kernel
theorem dL_holds_336 : decode cL_holds 336 = .ok (.if_icmp .gt 16, 3) := by decide +kernel
theorem dL_holds_339 : decode cL_holds 339 = .ok (.aload_n 0, 1) := by decide +kernel
theorem dL_holds_340 : decode cL_holds 340 = .ok (.iload 10, 2) := by decide +kernel
theorem dL_holds_342 : decode cL_holds 342 = .ok (.iconst 0, 1) := by decide +kernel
theorem dL_holds_343 : decode cL_holds 343 = .ok (.invokevirtual 18, 3) := by decide +kernel
theorem dL_holds_346 : decode cL_holds 346 = .ok (.iload_n 1, 1) := by decide +kernel
theorem dL_holds_347 : decode cL_holds 347 = .ok (.iconst 1, 1) := by decide +kernel
theorem dL_holds_348 : decode cL_holds 348 = .ok (.iadd, 1) := by decide +kernel
theorem dL_holds_349 : decode cL_holds 349 = .ok (.if_icmp .le 5, 3) := by decide +kernel
theorem dL_holds_352 : decode cL_holds 352 = .ok (.iconst 0, 1) := by decide +kernel
theorem dL_holds_353 : decode cL_holds 353 = .ok (.ireturn, 1) := by decide +kernel
theorem dL_holds_354 : decode cL_holds 354 = .ok (.iinc 10 1, 3) := by decide +kernel
theorem dL_holds_357 : decode cL_holds 357 = .ok (.goto (-62), 3) := by decide +kernel
theorem dL_holds_360 : decode cL_holds 360 = .ok (.iload 6, 2) := by decide +kernel
theorem dL_holds_362 : decode cL_holds 362 = .ok (.ifCond .eq 82, 3) := by decide +kernel
theorem dL_holds_365 : decode cL_holds 365 = .ok (.iload 8, 2) := by decide +kernel
theorem dL_holds_367 : decode cL_holds 367 = .ok (.ifCond .eq 77, 3) := by decide +kernel
theorem dL_holds_370 : decode cL_holds 370 = .ok (.iload 9, 2) := by decide +kernel
theorem dL_holds_372 : decode cL_holds 372 = .ok (.ifCond .eq 72, 3) := by decide +kernel
theorem dL_holds_375 : decode cL_holds 375 = .ok (.iload 4, 2) := by decide +kernel
theorem dL_holds_377 : decode cL_holds 377 = .ok (.aload_n 0, 1) := by decide +kernel
theorem dL_holds_378 : decode cL_holds 378 = .ok (.iconst 0, 1) := by decide +kernel
theorem dL_holds_379 : decode cL_holds 379 = .ok (.bipush 7, 2) := by decide +kernel
theorem dL_holds_381 : decode cL_holds 381 = .ok (.invokevirtual 18, 3) := by decide +kernel
theorem dL_holds_384 : decode cL_holds 384 = .ok (.aload_n 0, 1) := by decide +kernel
theorem dL_holds_385 : decode cL_holds 385 = .ok (.iconst 1, 1) := by decide +kernel
theorem dL_holds_386 : decode cL_holds 386 = .ok (.bipush 7, 2) := by decide +kernel
theorem dL_holds_388 : decode cL_holds 388 = .ok (.invokevirtual 18, 3) := by decide +kernel
theorem dL_holds_391 : decode cL_holds 391 = .ok (.iadd, 1) := by decide +kernel
theorem dL_holds_392 : decode cL_holds 392 = .ok (.if_icmp .ne 52, 3) := by decide +kernel
theorem dL_holds_395 : decode cL_holds 395 = .ok (.iload 5, 2) := by decide +kernel
theorem dL_holds_397 : decode cL_holds 397 = .ok (.aload_n 0, 1) := by decide +kernel
theorem dL_holds_398 : decode cL_holds 398 = .ok (.iconst 4, 1) := by decide +kernel
theorem dL_holds_399 : decode cL_holds 399 = .ok (.invokevirtual 12, 3) := by decide +kernel
theorem dL_holds_402 : decode cL_holds 402 = .ok (.aload_n 0, 1) := by decide +kernel
theorem dL_holds_403 : decode cL_holds 403 = .ok (.iconst 5, 1) := by decide +kernel
theorem dL_holds_404 : decode cL_holds 404 = .ok (.invokevirtual 12, 3) := by decide +kernel
theorem dL_holds_407 : decode cL_holds 407 = .ok (.iadd, 1) := by decide +kernel
theorem dL_holds_408 : decode cL_holds 408 = .ok (.aload_n 0, 1) := by decide +kernel
theorem dL_holds_409 : decode cL_holds 409 = .ok (.bipush 6, 2) := by decide +kernel
theorem dL_holds_411 : decode cL_holds 411 = .ok (.invokevirtual 12, 3) := by decide +kernel
theorem dL_holds_414 : decode cL_holds 414 = .ok (.iadd, 1) := by decide +kernel
theorem dL_holds_415 : decode cL_holds 415 = .ok (.if_icmp .ne 29, 3) := by decide +kernel
theorem dL_holds_418 : decode cL_holds 418 = .ok (.aload_n 0, 1) := by decide +kernel
theorem dL_holds_419 : decode cL_holds 419 = .ok (.bipush 8, 2) := by decide +kernel
theorem dL_holds_421 : decode cL_holds 421 = .ok (.invokevirtual 12, 3) := by decide +kernel
theorem dL_holds_424 : decode cL_holds 424 = .ok (.aload_n 0, 1) := by decide +kernel
theorem dL_holds_425 : decode cL_holds 425 = .ok (.bipush 9, 2) := by decide +kernel
theorem dL_holds_427 : decode cL_holds 427 = .ok (.invokevirtual 12, 3) := by decide +kernel
theorem dL_holds_430 : decode cL_holds 430 = .ok (.iadd, 1) := by decide +kernel
theorem dL_holds_431 : decode cL_holds 431 = .ok (.aload_n 0, 1) := by decide +kernel
theorem dL_holds_432 : decode cL_holds 432 = .ok (.bipush 7, 2) := by decide +kernel
theorem dL_holds_434 : decode cL_holds 434 = .ok (.invokevirtual 12, 3) := by decide +kernel
theorem dL_holds_437 : decode cL_holds 437 = .ok (.if_icmp .gt 7, 3) := by decide +kernel
theorem dL_holds_440 : decode cL_holds 440 = .ok (.iconst 1, 1) := by decide +kernel
theorem dL_holds_441 : decode cL_holds 441 = .ok (.goto 4, 3) := by decide +kernel
theorem dL_holds_444 : decode cL_holds 444 = .ok (.iconst 0, 1) := by decide +kernel
theorem dL_holds_445 : decode cL_holds 445 = .ok (.ireturn, 1) := by decide +kernel
theorem dL_isSure_0 : decode cL_isSure 0 = .ok (.aload_n 0, 1) := by decide +kernel
theorem dL_isSure_1 : decode cL_isSure 1 = .ok (.iconst 0, 1) := by decide +kernel
theorem dL_isSure_2 : decode cL_isSure 2 = .ok (.invokevirtual 64, 3) := by decide +kernel
theorem dL_isSure_5 : decode cL_isSure 5 = .ok (.istore_n 1, 1) := by decide +kernel
theorem dL_isSure_6 : decode cL_isSure 6 = .ok (.iload_n 1, 1) := by decide +kernel
theorem dL_isSure_7 : decode cL_isSure 7 = .ok (.aload_n 0, 1) := by decide +kernel
theorem dL_isSure_8 : decode cL_isSure 8 = .ok (.iconst 1, 1) := by decide +kernel
theorem dL_isSure_9 : decode cL_isSure 9 = .ok (.invokevirtual 64, 3) := by decide +kernel
theorem dL_isSure_12 : decode cL_isSure 12 = .ok (.if_icmp .ne 24, 3) := by decide +kernel
theorem dL_isSure_15 : decode cL_isSure 15 = .ok (.iload_n 1, 1) := by decide +kernel
theorem dL_isSure_16 : decode cL_isSure 16 = .ok (.sipush 500, 3) := by decide +kernel
theorem dL_isSure_19 : decode cL_isSure 19 = .ok (.if_icmp .lt 17, 3) := by decide +kernel
theorem dL_isSure_22 : decode cL_isSure 22 = .ok (.iload_n 1, 1) := by decide +kernel
theorem dL_isSure_23 : decode cL_isSure 23 = .ok (.sipush 1500, 3) := by decide +kernel
theorem dL_isSure_26 : decode cL_isSure 26 = .ok (.if_icmp .gt 10, 3) := by decide +kernel
theorem dL_isSure_29 : decode cL_isSure 29 = .ok (.iload_n 1, 1) := by decide +kernel
theorem dL_isSure_30 : decode cL_isSure 30 = .ok (.sipush 1000, 3) := by decide +kernel
theorem dL_isSure_33 : decode cL_isSure 33 = .ok (.if_icmp .ne 5, 3) := by decide +kernel
theorem dL_isSure_36 : decode cL_isSure 36 = .ok (.iconst 0, 1) := by decide +kernel
theorem dL_isSure_37 : decode cL_isSure 37 = .ok (.ireturn, 1) := by decide +kernel
theorem dL_isSure_38 : decode cL_isSure 38 = .ok (.aload_n 0, 1) := by decide +kernel
theorem dL_isSure_39 : decode cL_isSure 39 = .ok (.iconst 1, 1) := by decide +kernel
theorem dL_isSure_40 : decode cL_isSure 40 = .ok (.invokevirtual 12, 3) := by decide +kernel
theorem dL_isSure_43 : decode cL_isSure 43 = .ok (.istore_n 2, 1) := by decide +kernel
theorem dL_isSure_44 : decode cL_isSure 44 = .ok (.iload_n 2, 1) := by decide +kernel
theorem dL_isSure_45 : decode cL_isSure 45 = .ok (.ifCond .ge 16, 3) := by decide +kernel
theorem dL_isSure_48 : decode cL_isSure 48 = .ok (.iload_n 1, 1) := by decide +kernel
theorem dL_isSure_49 : decode cL_isSure 49 = .ok (.sipush 500, 3) := by decide +kernel
theorem dL_isSure_52 : decode cL_isSure 52 = .ok (.if_icmp .ne 7, 3) := by decide +kernel
theorem dL_isSure_55 : decode cL_isSure 55 = .ok (.iconst 1, 1) := by decide +kernel
theorem dL_isSure_56 : decode cL_isSure 56 = .ok (.goto 4, 3) := by decide +kernel
theorem dL_isSure_59 : decode cL_isSure 59 = .ok (.iconst 0, 1) := by decide +kernel
theorem dL_isSure_60 : decode cL_isSure 60 = .ok (.ireturn, 1) := by decide +kernel
theorem dL_isSure_61 : decode cL_isSure 61 = .ok (.aload_n 0, 1) := by decide +kernel
theorem dL_isSure_62 : decode cL_isSure 62 = .ok (.invokevirtual 67, 3) := by decide +kernel
theorem dL_isSure_65 : decode cL_isSure 65 = .ok (.istore_n 3, 1) := by decide +kernel
theorem dL_isSure_66 : decode cL_isSure 66 = .ok (.iload_n 3, 1) := by decide +kernel
theorem dL_isSure_67 : decode cL_isSure 67 = .ok (.ifCond .ne 20, 3) := by decide +kernel
theorem dL_isSure_70 : decode cL_isSure 70 = .ok (.aload_n 0, 1) := by decide +kernel
theorem dL_isSure_71 : decode cL_isSure 71 = .ok (.iload_n 2, 1) := by decide +kernel
theorem dL_isSure_72 : decode cL_isSure 72 = .ok (.iconst 2, 1) := by decide +kernel
theorem dL_isSure_73 : decode cL_isSure 73 = .ok (.invokevirtual 18, 3) := by decide +kernel
theorem dL_isSure_76 : decode cL_isSure 76 = .ok (.ifCond .le 7, 3) := by decide +kernel
theorem dL_isSure_79 : decode cL_isSure 79 = .ok (.iconst 1, 1) := by decide +kernel
theorem dL_isSure_80 : decode cL_isSure 80 = .ok (.goto 21, 3) := by decide +kernel
theorem dL_isSure_83 : decode cL_isSure 83 = .ok (.iconst 0, 1) := by decide +kernel
theorem dL_isSure_84 : decode cL_isSure 84 = .ok (.goto 17, 3) := by decide +kernel
theorem dL_isSure_87 : decode cL_isSure 87 = .ok (.aload_n 0, 1) := by decide +kernel
theorem dL_isSure_88 : decode cL_isSure 88 = .ok (.iload_n 3, 1) := by decide +kernel
theorem dL_isSure_89 : decode cL_isSure 89 = .ok (.invokevirtual 70, 3) := by decide +kernel
theorem dL_isSure_92 : decode cL_isSure 92 = .ok (.iload_n 1, 1) := by decide +kernel
theorem dL_isSure_93 : decode cL_isSure 93 = .ok (.if_icmp .ne 7, 3) := by decide +kernel
theorem dL_isSure_96 : decode cL_isSure 96 = .ok (.iconst 1, 1) := by decide +kernel
theorem dL_isSure_97 : decode cL_isSure 97 = .ok (.goto 4, 3) := by decide +kernel
theorem dL_isSure_100 : decode cL_isSure 100 = .ok (.iconst 0, 1) := by decide +kernel
theorem dL_isSure_101 : decode cL_isSure 101 = .ok (.istore 4, 2) := by decide +kernel
theorem dL_isSure_103 : decode cL_isSure 103 = .ok (.aload_n 0, 1) := by decide +kernel
theorem dL_isSure_104 : decode cL_isSure 104 = .ok (.iconst 0, 1) := by decide +kernel
theorem dL_isSure_105 : decode cL_isSure 105 = .ok (.iconst 0, 1) := by decide +kernel
theorem dL_isSure_106 : decode cL_isSure 106 = .ok (.iconst 0, 1) := by decide +kernel
theorem dL_isSure_107 : decode cL_isSure 107 = .ok (.invokevirtual 73, 3) := by decide +kernel
theorem dL_isSure_110 : decode cL_isSure 110 = .ok (.iload_n 2, 1) := by decide +kernel
theorem dL_isSure_111 : decode cL_isSure 111 = .ok (.if_icmp .ne 7, 3) := by decide +kernel
theorem dL_isSure_114 : decode cL_isSure 114 = .ok (.iconst 1, 1) := by decide +kernel
theorem dL_isSure_115 : decode cL_isSure 115 = .ok (.goto 4, 3) := by decide +kernel
theorem dL_isSure_118 : decode cL_isSure 118 = .ok (.iconst 0, 1) := by decide +kernel
theorem dL_isSure_119 : decode cL_isSure 119 = .ok (.iload_n 1, 1) := by decide +kernel
theorem dL_isSure_120 : decode cL_isSure 120 = .ok (.sipush 1000, 3) := by decide +kernel
theorem dL_isSure_123 : decode cL_isSure 123 = .ok (.if_icmp .le 7, 3) := by decide +kernel
theorem dL_isSure_126 : decode cL_isSure 126 = .ok (.iconst 1, 1) := by decide +kernel
theorem dL_isSure_127 : decode cL_isSure 127 = .ok (.goto 4, 3) := by decide +kernel
theorem dL_isSure_130 : decode cL_isSure 130 = .ok (.iconst 0, 1) := by decide +kernel
theorem dL_isSure_131 : decode cL_isSure 131 = .ok (.if_icmp .ne 41, 3) := by decide +kernel
theorem dL_isSure_134 : decode cL_isSure 134 = .ok (.aload_n 0, 1) := by decide +kernel
theorem dL_isSure_135 : decode cL_isSure 135 = .ok (.iconst 0, 1) := by decide +kernel
theorem dL_isSure_136 : decode cL_isSure 136 = .ok (.iconst 0, 1) := by decide +kernel
theorem dL_isSure_137 : decode cL_isSure 137 = .ok (.iconst 1, 1) := by decide +kernel
theorem dL_isSure_138 : decode cL_isSure 138 = .ok (.invokevirtual 73, 3) := by decide +kernel
theorem dL_isSure_141 : decode cL_isSure 141 = .ok (.sipush 500, 3) := by decide +kernel
theorem dL_isSure_144 : decode cL_isSure 144 = .ok (.iload_n 1, 1) := by decide +kernel
theorem dL_isSure_145 : decode cL_isSure 145 = .ok (.sipush 1000, 3) := by decide +kernel
theorem dL_isSure_148 : decode cL_isSure 148 = .ok (.if_icmp .le 11, 3) := by decide +kernel
theorem dL_isSure_151 : decode cL_isSure 151 = .ok (.iload_n 1, 1) := by decide +kernel
theorem dL_isSure_152 : decode cL_isSure 152 = .ok (.sipush 1000, 3) := by decide +kernel
theorem dL_isSure_155 : decode cL_isSure 155 = .ok (.isub, 1) := by decide +kernel
theorem dL_isSure_156 : decode cL_isSure 156 = .ok (.goto 8, 3) := by decide +kernel
theorem dL_isSure_159 : decode cL_isSure 159 = .ok (.sipush 1000, 3) := by decide +kernel
theorem dL_isSure_162 : decode cL_isSure 162 = .ok (.iload_n 1, 1) := by decide +kernel
theorem dL_isSure_163 : decode cL_isSure 163 = .ok (.isub, 1) := by decide +kernel
theorem dL_isSure_164 : decode cL_isSure 164 = .ok (.isub, 1) := by decide +kernel
theorem dL_isSure_165 : decode cL_isSure 165 = .ok (.if_icmp .ne 7, 3) := by decide +kernel
theorem dL_isSure_168 : decode cL_isSure 168 = .ok (.iconst 1, 1) := by decide +kernel
theorem dL_isSure_169 : decode cL_isSure 169 = .ok (.goto 4, 3) := by decide +kernel
theorem dL_isSure_172 : decode cL_isSure 172 = .ok (.iconst 0, 1) := by decide +kernel
theorem dL_isSure_173 : decode cL_isSure 173 = .ok (.istore 5, 2) := by decide +kernel
theorem dL_isSure_175 : decode cL_isSure 175 = .ok (.iload 4, 2) := by decide +kernel
theorem dL_isSure_177 : decode cL_isSure 177 = .ok (.ifCond .eq 47, 3) := by decide +kernel
theorem dL_isSure_180 : decode cL_isSure 180 = .ok (.iload 5, 2) := by decide +kernel
theorem dL_isSure_182 : decode cL_isSure 182 = .ok (.ifCond .eq 42, 3) := by decide +kernel
theorem dL_isSure_185 : decode cL_isSure 185 = .ok (.iload_n 1, 1) := by decide +kernel
theorem dL_isSure_186 : decode cL_isSure 186 = .ok (.sipush 1000, 3) := by decide +kernel
theorem dL_isSure_189 : decode cL_isSure 189 = .ok (.if_icmp .lt 31, 3) := by decide +kernel
theorem dL_isSure_192 : decode cL_isSure 192 = .ok (.iload_n 2, 1) := by decide +kernel
theorem dL_isSure_193 : decode cL_isSure 193 = .ok (.ifCond .ne 16, 3) := by decide +kernel
theorem dL_isSure_196 : decode cL_isSure 196 = .ok (.aload_n 0, 1) := by decide +kernel
theorem dL_isSure_197 : decode cL_isSure 197 = .ok (.iconst 0, 1) := by decide +kernel
theorem dL_isSure_198 : decode cL_isSure 198 = .ok (.iconst 1, 1) := by decide +kernel
theorem dL_isSure_199 : decode cL_isSure 199 = .ok (.iconst 0, 1) := by decide +kernel
theorem dL_isSure_200 : decode cL_isSure 200 = .ok (.invokevirtual 73, 3) := by decide +kernel
theorem dL_isSure_203 : decode cL_isSure 203 = .ok (.ifCond .ne 21, 3) := by decide +kernel
theorem dL_isSure_206 : decode cL_isSure 206 = .ok (.goto 14, 3) := by decide +kernel
theorem dL_isSure_209 : decode cL_isSure 209 = .ok (.aload_n 0, 1) := by decide +kernel
theorem dL_isSure_210 : decode cL_isSure 210 = .ok (.iconst 1, 1) := by decide +kernel
theorem dL_isSure_211 : decode cL_isSure 211 = .ok (.iconst 0, 1) := by decide +kernel
theorem dL_isSure_212 : decode cL_isSure 212 = .ok (.iconst 0, 1) := by decide +kernel
theorem dL_isSure_213 : decode cL_isSure 213 = .ok (.invokevirtual 73, 3) := by decide +kernel
theorem dL_isSure_216 : decode cL_isSure 216 = .ok (.iconst 1, 1) := by decide +kernel
theorem dL_isSure_217 : decode cL_isSure 217 = .ok (.if_icmp .ne 7, 3) := by decide +kernel
theorem dL_isSure_220 : decode cL_isSure 220 = .ok (.iconst 1, 1) := by decide +kernel
theorem dL_isSure_221 : decode cL_isSure 221 = .ok (.goto 4, 3) := by decide +kernel
theorem dL_isSure_224 : decode cL_isSure 224 = .ok (.iconst 0, 1) := by decide +kernel
theorem dL_isSure_225 : decode cL_isSure 225 = .ok (.ireturn, 1) := by decide +kernel
theorem dL_law_0 : decode cL_law 0 = .ok (.new 13, 3) := by decide +kernel
theorem dL_law_3 : decode cL_law 3 = .ok (.dup, 1) := by decide +kernel
theorem dL_law_4 : decode cL_law 4 = .ok (.invokespecial 77, 3) := by decide +kernel
theorem dL_law_7 : decode cL_law 7 = .ok (.astore_n 1, 1) := by decide +kernel
theorem dL_law_8 : decode cL_law 8 = .ok (.aload_n 1, 1) := by decide +kernel
theorem dL_law_9 : decode cL_law 9 = .ok (.invokevirtual 78, 3) := by decide +kernel
theorem dL_law_12 : decode cL_law 12 = .ok (.bipush (-2), 2) := by decide +kernel
theorem dL_law_14 : decode cL_law 14 = .ok (.if_icmp .ne 31, 3) := by decide +kernel
theorem dL_law_17 : decode cL_law 17 = .ok (.aload_n 1, 1) := by decide +kernel
theorem dL_law_18 : decode cL_law 18 = .ok (.invokevirtual 29, 3) := by decide +kernel
theorem dL_law_21 : decode cL_law 21 = .ok (.bipush (-2), 2) := by decide +kernel
theorem dL_law_23 : decode cL_law 23 = .ok (.if_icmp .ne 22, 3) := by decide +kernel
theorem dL_law_26 : decode cL_law 26 = .ok (.aload_n 1, 1) := by decide +kernel
theorem dL_law_27 : decode cL_law 27 = .ok (.iconst 0, 1) := by decide +kernel
theorem dL_law_28 : decode cL_law 28 = .ok (.invokevirtual 81, 3) := by decide +kernel
theorem dL_law_31 : decode cL_law 31 = .ok (.bipush (-4), 2) := by decide +kernel
theorem dL_law_33 : decode cL_law 33 = .ok (.if_icmp .ne 12, 3) := by decide +kernel
theorem dL_law_36 : decode cL_law 36 = .ok (.aload_n 1, 1) := by decide +kernel
theorem dL_law_37 : decode cL_law 37 = .ok (.invokevirtual 84, 3) := by decide +kernel
theorem dL_law_40 : decode cL_law 40 = .ok (.dconst 0, 1) := by decide +kernel
theorem dL_law_41 : decode cL_law 41 = .ok (.dcmp .l, 1) := by decide +kernel
theorem dL_law_42 : decode cL_law 42 = .ok (.ifCond .eq 5, 3) := by decide +kernel
theorem dL_law_45 : decode cL_law 45 = .ok (.iconst 0, 1) := by decide +kernel
theorem dL_law_46 : decode cL_law 46 = .ok (.ireturn, 1) := by decide +kernel
theorem dL_law_47 : decode cL_law 47 = .ok (.iconst 0, 1) := by decide +kernel
theorem dL_law_48 : decode cL_law 48 = .ok (.istore_n 2, 1) := by decide +kernel
theorem dL_law_49 : decode cL_law 49 = .ok (.iload_n 2, 1) := by decide +kernel
theorem dL_law_50 : decode cL_law 50 = .ok (.bipush 40, 2) := by decide +kernel
theorem dL_law_52 : decode cL_law 52 = .ok (.if_icmp .ge 219, 3) := by decide +kernel
theorem dL_law_55 : decode cL_law 55 = .ok (.iload_n 2, 1) := by decide +kernel
theorem dL_law_56 : decode cL_law 56 = .ok (.iconst 1, 1) := by decide +kernel
theorem dL_law_57 : decode cL_law 57 = .ok (.if_icmp .ne 7, 3) := by decide +kernel
theorem dL_law_60 : decode cL_law 60 = .ok (.iconst 2, 1) := by decide +kernel
theorem dL_law_61 : decode cL_law 61 = .ok (.goto 10, 3) := by decide +kernel
theorem dL_law_64 : decode cL_law 64 = .ok (.aload_n 0, 1) := by decide +kernel
theorem dL_law_65 : decode cL_law 65 = .ok (.iconst 2, 1) := by decide +kernel
theorem dL_law_66 : decode cL_law 66 = .ok (.iload_n 2, 1) := by decide +kernel
theorem dL_law_67 : decode cL_law 67 = .ok (.imul, 1) := by decide +kernel
theorem dL_law_68 : decode cL_law 68 = .ok (.invokestatic 88, 3) := by decide +kernel
theorem dL_law_71 : decode cL_law 71 = .ok (.istore_n 3, 1) := by decide +kernel
theorem dL_law_72 : decode cL_law 72 = .ok (.aload_n 0, 1) := by decide +kernel
theorem dL_law_73 : decode cL_law 73 = .ok (.iconst 2, 1) := by decide +kernel
theorem dL_law_74 : decode cL_law 74 = .ok (.iload_n 2, 1) := by decide +kernel
theorem dL_law_75 : decode cL_law 75 = .ok (.imul, 1) := by decide +kernel
theorem dL_law_76 : decode cL_law 76 = .ok (.iconst 1, 1) := by decide +kernel
theorem dL_law_77 : decode cL_law 77 = .ok (.iadd, 1) := by decide +kernel
theorem dL_law_78 : decode cL_law 78 = .ok (.invokestatic 88, 3) := by decide +kernel
theorem dL_law_81 : decode cL_law 81 = .ok (.istore 4, 2) := by decide +kernel
theorem dL_law_83 : decode cL_law 83 = .ok (.iload_n 2, 1) := by decide +kernel
theorem dL_law_84 : decode cL_law 84 = .ok (.bipush 6, 2) := by decide +kernel
theorem dL_law_86 : decode cL_law 86 = .ok (.if_icmp .ne 8, 3) := by decide +kernel
theorem dL_law_89 : decode cL_law 89 = .ok (.aload_n 1, 1) := by decide +kernel
theorem dL_law_90 : decode cL_law 90 = .ok (.invokevirtual 92, 3) := by decide +kernel
theorem dL_law_93 : decode cL_law 93 = .ok (.pop, 1) := by decide +kernel
theorem dL_law_94 : decode cL_law 94 = .ok (.aload_n 1, 1) := by decide +kernel
theorem dL_law_95 : decode cL_law 95 = .ok (.invokestatic 95, 3) := by decide +kernel
theorem dL_law_98 : decode cL_law 98 = .ok (.lstore 5, 2) := by decide +kernel
theorem dL_law_100 : decode cL_law 100 = .ok (.aload_n 1, 1) := by decide +kernel
theorem dL_law_101 : decode cL_law 101 = .ok (.bipush 13, 2) := by decide +kernel
theorem dL_law_103 : decode cL_law 103 = .ok (.invokevirtual 12, 3) := by decide +kernel
theorem dL_law_106 : decode cL_law 106 = .ok (.istore 7, 2) := by decide +kernel
theorem dL_law_108 : decode cL_law 108 = .ok (.aload_n 1, 1) := by decide +kernel
theorem dL_law_109 : decode cL_law 109 = .ok (.iload_n 3, 1) := by decide +kernel
theorem dL_law_110 : decode cL_law 110 = .ok (.iload 4, 2) := by decide +kernel
theorem dL_law_112 : decode cL_law 112 = .ok (.invokestatic 99, 3) := by decide +kernel
theorem dL_law_115 : decode cL_law 115 = .ok (.istore 8, 2) := by decide +kernel
theorem dL_law_117 : decode cL_law 117 = .ok (.aload_n 1, 1) := by decide +kernel
theorem dL_law_118 : decode cL_law 118 = .ok (.invokestatic 95, 3) := by decide +kernel
theorem dL_law_121 : decode cL_law 121 = .ok (.lstore 9, 2) := by decide +kernel
theorem dL_law_123 : decode cL_law 123 = .ok (.iload 8, 2) := by decide +kernel
theorem dL_law_125 : decode cL_law 125 = .ok (.ifCond .ge 25, 3) := by decide +kernel
theorem dL_law_128 : decode cL_law 128 = .ok (.lload 9, 2) := by decide +kernel
theorem dL_law_130 : decode cL_law 130 = .ok (.lload 5, 2) := by decide +kernel
theorem dL_law_132 : decode cL_law 132 = .ok (.lcmp, 1) := by decide +kernel
theorem dL_law_133 : decode cL_law 133 = .ok (.ifCond .ne 40, 3) := by decide +kernel
theorem dL_law_136 : decode cL_law 136 = .ok (.aload_n 1, 1) := by decide +kernel
theorem dL_law_137 : decode cL_law 137 = .ok (.bipush 13, 2) := by decide +kernel
theorem dL_law_139 : decode cL_law 139 = .ok (.invokevirtual 12, 3) := by decide +kernel
theorem dL_law_142 : decode cL_law 142 = .ok (.iload 7, 2) := by decide +kernel
theorem dL_law_144 : decode cL_law 144 = .ok (.if_icmp .eq 31, 3) := by decide +kernel
theorem dL_law_147 : decode cL_law 147 = .ok (.goto 26, 3) := by decide +kernel
theorem dL_law_150 : decode cL_law 150 = .ok (.aload_n 1, 1) := by decide +kernel
theorem dL_law_151 : decode cL_law 151 = .ok (.bipush 13, 2) := by decide +kernel
theorem dL_law_153 : decode cL_law 153 = .ok (.invokevirtual 12, 3) := by decide +kernel
theorem dL_law_156 : decode cL_law 156 = .ok (.iload 7, 2) := by decide +kernel
theorem dL_law_158 : decode cL_law 158 = .ok (.iconst 4, 1) := by decide +kernel
theorem dL_law_159 : decode cL_law 159 = .ok (.if_icmp .ge 10, 3) := by decide +kernel
theorem dL_law_162 : decode cL_law 162 = .ok (.iload 7, 2) := by decide +kernel
theorem dL_law_164 : decode cL_law 164 = .ok (.iconst 1, 1) := by decide +kernel
theorem dL_law_165 : decode cL_law 165 = .ok (.iadd, 1) := by decide +kernel
theorem dL_law_166 : decode cL_law 166 = .ok (.goto 4, 3) := by decide +kernel
theorem dL_law_169 : decode cL_law 169 = .ok (.iconst 4, 1) := by decide +kernel
theorem dL_law_170 : decode cL_law 170 = .ok (.if_icmp .eq 5, 3) := by decide +kernel
theorem dL_law_173 : decode cL_law 173 = .ok (.iconst 0, 1) := by decide +kernel
theorem dL_law_174 : decode cL_law 174 = .ok (.ireturn, 1) := by decide +kernel
theorem dL_law_175 : decode cL_law 175 = .ok (.iload 8, 2) := by decide +kernel
theorem dL_law_177 : decode cL_law 177 = .ok (.ifCond .lt 65, 3) := by decide +kernel
theorem dL_law_180 : decode cL_law 180 = .ok (.iload_n 3, 1) := by decide +kernel
theorem dL_law_181 : decode cL_law 181 = .ok (.bipush 10, 2) := by decide +kernel
theorem dL_law_183 : decode cL_law 183 = .ok (.ishr, 1) := by decide +kernel
theorem dL_law_184 : decode cL_law 184 = .ok (.iconst 1, 1) := by decide +kernel
theorem dL_law_185 : decode cL_law 185 = .ok (.iand, 1) := by decide +kernel
theorem dL_law_186 : decode cL_law 186 = .ok (.ifCond .ne 56, 3) := by decide +kernel
theorem dL_law_189 : decode cL_law 189 = .ok (.aload_n 1, 1) := by decide +kernel
theorem dL_law_190 : decode cL_law 190 = .ok (.bipush 13, 2) := by decide +kernel
theorem dL_law_192 : decode cL_law 192 = .ok (.invokevirtual 12, 3) := by decide +kernel
theorem dL_law_195 : decode cL_law 195 = .ok (.iconst 1, 1) := by decide +kernel
theorem dL_law_196 : decode cL_law 196 = .ok (.isub, 1) := by decide +kernel
theorem dL_law_197 : decode cL_law 197 = .ok (.istore 11, 2) := by decide +kernel
theorem dL_law_199 : decode cL_law 199 = .ok (.aload_n 1, 1) := by decide +kernel
theorem dL_law_200 : decode cL_law 200 = .ok (.invokevirtual 78, 3) := by decide +kernel
theorem dL_law_203 : decode cL_law 203 = .ok (.iload 11, 2) := by decide +kernel
theorem dL_law_205 : decode cL_law 205 = .ok (.if_icmp .ne 35, 3) := by decide +kernel
theorem dL_law_208 : decode cL_law 208 = .ok (.aload_n 1, 1) := by decide +kernel
theorem dL_law_209 : decode cL_law 209 = .ok (.invokestatic 95, 3) := by decide +kernel
theorem dL_law_212 : decode cL_law 212 = .ok (.lload 5, 2) := by decide +kernel
theorem dL_law_214 : decode cL_law 214 = .ok (.lcmp, 1) := by decide +kernel
theorem dL_law_215 : decode cL_law 215 = .ok (.ifCond .ne 25, 3) := by decide +kernel
theorem dL_law_218 : decode cL_law 218 = .ok (.aload_n 1, 1) := by decide +kernel
theorem dL_law_219 : decode cL_law 219 = .ok (.iload_n 3, 1) := by decide +kernel
theorem dL_law_220 : decode cL_law 220 = .ok (.iload 4, 2) := by decide +kernel
theorem dL_law_222 : decode cL_law 222 = .ok (.invokestatic 99, 3) := by decide +kernel
theorem dL_law_225 : decode cL_law 225 = .ok (.iload 8, 2) := by decide +kernel
theorem dL_law_227 : decode cL_law 227 = .ok (.if_icmp .ne 13, 3) := by decide +kernel
theorem dL_law_230 : decode cL_law 230 = .ok (.aload_n 1, 1) := by decide +kernel
theorem dL_law_231 : decode cL_law 231 = .ok (.invokestatic 95, 3) := by decide +kernel
theorem dL_law_234 : decode cL_law 234 = .ok (.lload 9, 2) := by decide +kernel
theorem dL_law_236 : decode cL_law 236 = .ok (.lcmp, 1) := by decide +kernel
theorem dL_law_237 : decode cL_law 237 = .ok (.ifCond .eq 5, 3) := by decide +kernel
theorem dL_law_240 : decode cL_law 240 = .ok (.iconst 0, 1) := by decide +kernel
theorem dL_law_241 : decode cL_law 241 = .ok (.ireturn, 1) := by decide +kernel
theorem dL_law_242 : decode cL_law 242 = .ok (.aload_n 1, 1) := by decide +kernel
theorem dL_law_243 : decode cL_law 243 = .ok (.invokestatic 103, 3) := by decide +kernel
theorem dL_law_246 : decode cL_law 246 = .ok (.ifCond .eq 17, 3) := by decide +kernel
theorem dL_law_249 : decode cL_law 249 = .ok (.iload_n 2, 1) := by decide +kernel
theorem dL_law_250 : decode cL_law 250 = .ok (.iconst 5, 1) := by decide +kernel
theorem dL_law_251 : decode cL_law 251 = .ok (.irem, 1) := by decide +kernel
theorem dL_law_252 : decode cL_law 252 = .ok (.iconst 3, 1) := by decide +kernel
theorem dL_law_253 : decode cL_law 253 = .ok (.if_icmp .ne 12, 3) := by decide +kernel
theorem dL_law_256 : decode cL_law 256 = .ok (.aload_n 1, 1) := by decide +kernel
theorem dL_law_257 : decode cL_law 257 = .ok (.invokestatic 107, 3) := by decide +kernel
theorem dL_law_260 : decode cL_law 260 = .ok (.ifCond .ne 5, 3) := by decide +kernel
theorem dL_law_263 : decode cL_law 263 = .ok (.iconst 0, 1) := by decide +kernel
theorem dL_law_264 : decode cL_law 264 = .ok (.ireturn, 1) := by decide +kernel
theorem dL_law_265 : decode cL_law 265 = .ok (.iinc 2 1, 3) := by decide +kernel
theorem dL_law_268 : decode cL_law 268 = .ok (.goto (-219), 3) := by decide +kernel
theorem dL_law_271 : decode cL_law 271 = .ok (.iconst 1, 1) := by decide +kernel
theorem dL_law_272 : decode cL_law 272 = .ok (.ireturn, 1) := by decide +kernel

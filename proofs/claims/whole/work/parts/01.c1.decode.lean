theorem dX5_standOf_14 : decode cX5_standOf 14 = .ok (.ifCond .eq 7, 3) := by decide +kernel
theorem dX5_standOf_17 : decode cX5_standOf 17 = .ok (.iconst 2, 1) := by decide +kernel
theorem dX5_standOf_18 : decode cX5_standOf 18 = .ok (.goto 4, 3) := by decide +kernel
theorem dX5_standOf_21 : decode cX5_standOf 21 = .ok (.iconst 0, 1) := by decide +kernel
theorem dX5_standOf_22 : decode cX5_standOf 22 = .ok (.aload_n 2, 1) := by decide +kernel
theorem dX5_standOf_23 : decode cX5_standOf 23 = .ok (.getfield 155, 3) := by decide +kernel
theorem dX5_standOf_26 : decode cX5_standOf 26 = .ok (.ifCond .eq 7, 3) := by decide +kernel
theorem dX5_standOf_29 : decode cX5_standOf 29 = .ok (.iconst 1, 1) := by decide +kernel
theorem dX5_standOf_30 : decode cX5_standOf 30 = .ok (.goto 4, 3) := by decide +kernel
theorem dX5_standOf_33 : decode cX5_standOf 33 = .ok (.iconst 0, 1) := by decide +kernel
theorem dX5_standOf_34 : decode cX5_standOf 34 = .ok (.ior, 1) := by decide +kernel
theorem dX5_standOf_35 : decode cX5_standOf 35 = .ok (.istore_n 3, 1) := by decide +kernel
theorem dX5_standOf_36 : decode cX5_standOf 36 = .ok (.aload_n 1, 1) := by decide +kernel
theorem dX5_standOf_37 : decode cX5_standOf 37 = .ok (.getfield 161, 3) := by decide +kernel
theorem dX5_standOf_40 : decode cX5_standOf 40 = .ok (.bipush 10, 2) := by decide +kernel
theorem dX5_standOf_42 : decode cX5_standOf 42 = .ok (.ishl, 1) := by decide +kernel
theorem dX5_standOf_43 : decode cX5_standOf 43 = .ok (.aload_n 2, 1) := by decide +kernel
theorem dX5_standOf_44 : decode cX5_standOf 44 = .ok (.getfield 161, 3) := by decide +kernel
theorem dX5_standOf_47 : decode cX5_standOf 47 = .ok (.bipush 6, 2) := by decide +kernel
theorem dX5_standOf_49 : decode cX5_standOf 49 = .ok (.ishl, 1) := by decide +kernel
theorem dX5_standOf_50 : decode cX5_standOf 50 = .ok (.ior, 1) := by decide +kernel
theorem dX5_standOf_51 : decode cX5_standOf 51 = .ok (.iload_n 3, 1) := by decide +kernel
theorem dX5_standOf_52 : decode cX5_standOf 52 = .ok (.iconst 4, 1) := by decide +kernel
theorem dX5_standOf_53 : decode cX5_standOf 53 = .ok (.ishl, 1) := by decide +kernel
theorem dX5_standOf_54 : decode cX5_standOf 54 = .ok (.ior, 1) := by decide +kernel
theorem dX5_standOf_55 : decode cX5_standOf 55 = .ok (.aload_n 1, 1) := by decide +kernel
theorem dX5_standOf_56 : decode cX5_standOf 56 = .ok (.getfield 164, 3) := by decide +kernel
theorem dX5_standOf_59 : decode cX5_standOf 59 = .ok (.iconst 2, 1) := by decide +kernel
theorem dX5_standOf_60 : decode cX5_standOf 60 = .ok (.ishl, 1) := by decide +kernel
theorem dX5_standOf_61 : decode cX5_standOf 61 = .ok (.ior, 1) := by decide +kernel
theorem dX5_standOf_62 : decode cX5_standOf 62 = .ok (.aload_n 2, 1) := by decide +kernel
theorem dX5_standOf_63 : decode cX5_standOf 63 = .ok (.getfield 164, 3) := by decide +kernel
theorem dX5_standOf_66 : decode cX5_standOf 66 = .ok (.ior, 1) := by decide +kernel
theorem dX5_standOf_67 : decode cX5_standOf 67 = .ok (.ireturn, 1) := by decide +kernel
theorem dX5_ownLoses_0 : decode cX5_ownLoses 0 = .ok (.iload_n 0, 1) := by decide +kernel
theorem dX5_ownLoses_1 : decode cX5_ownLoses 1 = .ok (.iconst 2, 1) := by decide +kernel
theorem dX5_ownLoses_2 : decode cX5_ownLoses 2 = .ok (.ishr, 1) := by decide +kernel
theorem dX5_ownLoses_3 : decode cX5_ownLoses 3 = .ok (.iconst 3, 1) := by decide +kernel
theorem dX5_ownLoses_4 : decode cX5_ownLoses 4 = .ok (.iand, 1) := by decide +kernel
theorem dX5_ownLoses_5 : decode cX5_ownLoses 5 = .ok (.ireturn, 1) := by decide +kernel
theorem dX5_otherLoses_0 : decode cX5_otherLoses 0 = .ok (.iload_n 0, 1) := by decide +kernel
theorem dX5_otherLoses_1 : decode cX5_otherLoses 1 = .ok (.iconst 3, 1) := by decide +kernel
theorem dX5_otherLoses_2 : decode cX5_otherLoses 2 = .ok (.iand, 1) := by decide +kernel
theorem dX5_otherLoses_3 : decode cX5_otherLoses 3 = .ok (.ireturn, 1) := by decide +kernel
theorem dX6_init_0 : decode cX6_init 0 = .ok (.aload_n 0, 1) := by decide +kernel
theorem dX6_init_1 : decode cX6_init 1 = .ok (.invokespecial 1, 3) := by decide +kernel
theorem dX6_init_4 : decode cX6_init 4 = .ok (.aload_n 0, 1) := by decide +kernel
theorem dX6_init_5 : decode cX6_init 5 = .ok (.new 7, 3) := by decide +kernel
theorem dX6_init_8 : decode cX6_init 8 = .ok (.dup, 1) := by decide +kernel
theorem dX6_init_9 : decode cX6_init 9 = .ok (.invokespecial 9, 3) := by decide +kernel
theorem dX6_init_12 : decode cX6_init 12 = .ok (.putfield 10, 3) := by decide +kernel
theorem dX6_init_15 : decode cX6_init 15 = .ok (.aload_n 0, 1) := by decide +kernel
theorem dX6_init_16 : decode cX6_init 16 = .ok (.new 7, 3) := by decide +kernel
theorem dX6_init_19 : decode cX6_init 19 = .ok (.dup, 1) := by decide +kernel
theorem dX6_init_20 : decode cX6_init 20 = .ok (.invokespecial 9, 3) := by decide +kernel
theorem dX6_init_23 : decode cX6_init 23 = .ok (.putfield 16, 3) := by decide +kernel
theorem dX6_init_26 : decode cX6_init 26 = .ok (.aload_n 0, 1) := by decide +kernel
theorem dX6_init_27 : decode cX6_init 27 = .ok (.new 7, 3) := by decide +kernel
theorem dX6_init_30 : decode cX6_init 30 = .ok (.dup, 1) := by decide +kernel
theorem dX6_init_31 : decode cX6_init 31 = .ok (.invokespecial 9, 3) := by decide +kernel
theorem dX6_init_34 : decode cX6_init 34 = .ok (.putfield 19, 3) := by decide +kernel
theorem dX6_init_37 : decode cX6_init 37 = .ok (.aload_n 0, 1) := by decide +kernel
theorem dX6_init_38 : decode cX6_init 38 = .ok (.new 22, 3) := by decide +kernel
theorem dX6_init_41 : decode cX6_init 41 = .ok (.dup, 1) := by decide +kernel
theorem dX6_init_42 : decode cX6_init 42 = .ok (.invokespecial 24, 3) := by decide +kernel
theorem dX6_init_45 : decode cX6_init 45 = .ok (.putfield 25, 3) := by decide +kernel
theorem dX6_init_48 : decode cX6_init 48 = .ok (.aload_n 0, 1) := by decide +kernel
theorem dX6_init_49 : decode cX6_init 49 = .ok (.new 29, 3) := by decide +kernel
theorem dX6_init_52 : decode cX6_init 52 = .ok (.dup, 1) := by decide +kernel
theorem dX6_init_53 : decode cX6_init 53 = .ok (.invokespecial 31, 3) := by decide +kernel
theorem dX6_init_56 : decode cX6_init 56 = .ok (.putfield 32, 3) := by decide +kernel
theorem dX6_init_59 : decode cX6_init 59 = .ok (.aload_n 0, 1) := by decide +kernel
theorem dX6_init_60 : decode cX6_init 60 = .ok (.new 36, 3) := by decide +kernel
theorem dX6_init_63 : decode cX6_init 63 = .ok (.dup, 1) := by decide +kernel
theorem dX6_init_64 : decode cX6_init 64 = .ok (.invokespecial 38, 3) := by decide +kernel
theorem dX6_init_67 : decode cX6_init 67 = .ok (.putfield 39, 3) := by decide +kernel
theorem dX6_init_70 : decode cX6_init 70 = .ok (.aload_n 0, 1) := by decide +kernel
theorem dX6_init_71 : decode cX6_init 71 = .ok (.iconst 0, 1) := by decide +kernel
theorem dX6_init_72 : decode cX6_init 72 = .ok (.putfield 43, 3) := by decide +kernel
theorem dX6_init_75 : decode cX6_init 75 = .ok (.aload_n 0, 1) := by decide +kernel
theorem dX6_init_76 : decode cX6_init 76 = .ok (.iconst 0, 1) := by decide +kernel
theorem dX6_init_77 : decode cX6_init 77 = .ok (.putfield 47, 3) := by decide +kernel
theorem dX6_init_80 : decode cX6_init 80 = .ok (.aload_n 0, 1) := by decide +kernel
theorem dX6_init_81 : decode cX6_init 81 = .ok (.iconst 0, 1) := by decide +kernel
theorem dX6_init_82 : decode cX6_init 82 = .ok (.putfield 51, 3) := by decide +kernel
theorem dX6_init_85 : decode cX6_init 85 = .ok (.return_, 1) := by decide +kernel
theorem dX6_drive_0 : decode cX6_drive 0 = .ok (.iload_n 1, 1) := by decide +kernel
theorem dX6_drive_1 : decode cX6_drive 1 = .ok (.iconst 1, 1) := by decide +kernel
theorem dX6_drive_2 : decode cX6_drive 2 = .ok (.if_icmp .lt 8, 3) := by decide +kernel
theorem dX6_drive_5 : decode cX6_drive 5 = .ok (.iload_n 1, 1) := by decide +kernel
theorem dX6_drive_6 : decode cX6_drive 6 = .ok (.iconst 4, 1) := by decide +kernel
theorem dX6_drive_7 : decode cX6_drive 7 = .ok (.if_icmp .le 5, 3) := by decide +kernel
theorem dX6_drive_10 : decode cX6_drive 10 = .ok (.iconst (-1), 1) := by decide +kernel
theorem dX6_drive_11 : decode cX6_drive 11 = .ok (.ireturn, 1) := by decide +kernel
theorem dX6_drive_12 : decode cX6_drive 12 = .ok (.aload_n 0, 1) := by decide +kernel
theorem dX6_drive_13 : decode cX6_drive 13 = .ok (.getfield 10, 3) := by decide +kernel
theorem dX6_drive_16 : decode cX6_drive 16 = .ok (.iload_n 1, 1) := by decide +kernel
theorem dX6_drive_17 : decode cX6_drive 17 = .ok (.invokevirtual 54, 3) := by decide +kernel
theorem dX6_drive_20 : decode cX6_drive 20 = .ok (.ifCond .eq 6, 3) := by decide +kernel
theorem dX6_drive_23 : decode cX6_drive 23 = .ok (.bipush (-2), 2) := by decide +kernel
theorem dX6_drive_25 : decode cX6_drive 25 = .ok (.ireturn, 1) := by decide +kernel
theorem dX6_drive_26 : decode cX6_drive 26 = .ok (.aload_n 0, 1) := by decide +kernel
theorem dX6_drive_27 : decode cX6_drive 27 = .ok (.getfield 10, 3) := by decide +kernel
theorem dX6_drive_30 : decode cX6_drive 30 = .ok (.invokevirtual 58, 3) := by decide +kernel
theorem dX6_drive_33 : decode cX6_drive 33 = .ok (.astore_n 2, 1) := by decide +kernel
theorem dX6_drive_34 : decode cX6_drive 34 = .ok (.aload_n 0, 1) := by decide +kernel
theorem dX6_drive_35 : decode cX6_drive 35 = .ok (.iload_n 1, 1) := by decide +kernel
theorem dX6_drive_36 : decode cX6_drive 36 = .ok (.invokevirtual 62, 3) := by decide +kernel
theorem dX6_drive_39 : decode cX6_drive 39 = .ok (.aload_n 2, 1) := by decide +kernel
theorem dX6_drive_40 : decode cX6_drive 40 = .ok (.getfield 66, 3) := by decide +kernel
theorem dX6_drive_43 : decode cX6_drive 43 = .ok (.ireturn, 1) := by decide +kernel
theorem dX6_token_0 : decode cX6_token 0 = .ok (.aload_n 0, 1) := by decide +kernel
theorem dX6_token_1 : decode cX6_token 1 = .ok (.getfield 10, 3) := by decide +kernel
theorem dX6_token_4 : decode cX6_token 4 = .ok (.iconst 5, 1) := by decide +kernel
theorem dX6_token_5 : decode cX6_token 5 = .ok (.invokevirtual 54, 3) := by decide +kernel
theorem dX6_token_8 : decode cX6_token 8 = .ok (.ifCond .eq 6, 3) := by decide +kernel
theorem dX6_token_11 : decode cX6_token 11 = .ok (.bipush (-2), 2) := by decide +kernel
theorem dX6_token_13 : decode cX6_token 13 = .ok (.ireturn, 1) := by decide +kernel
theorem dX6_token_14 : decode cX6_token 14 = .ok (.aload_n 0, 1) := by decide +kernel
theorem dX6_token_15 : decode cX6_token 15 = .ok (.getfield 10, 3) := by decide +kernel
theorem dX6_token_18 : decode cX6_token 18 = .ok (.invokevirtual 71, 3) := by decide +kernel
theorem dX6_token_21 : decode cX6_token 21 = .ok (.astore_n 1, 1) := by decide +kernel
theorem dX6_token_22 : decode cX6_token 22 = .ok (.aload_n 0, 1) := by decide +kernel
theorem dX6_token_23 : decode cX6_token 23 = .ok (.iconst 5, 1) := by decide +kernel
theorem dX6_token_24 : decode cX6_token 24 = .ok (.invokevirtual 62, 3) := by decide +kernel
theorem dX6_token_27 : decode cX6_token 27 = .ok (.aload_n 1, 1) := by decide +kernel
theorem dX6_token_28 : decode cX6_token 28 = .ok (.getfield 74, 3) := by decide +kernel
theorem dX6_token_31 : decode cX6_token 31 = .ok (.ireturn, 1) := by decide +kernel
theorem dX6_lose_0 : decode cX6_lose 0 = .ok (.aload_n 0, 1) := by decide +kernel
theorem dX6_lose_1 : decode cX6_lose 1 = .ok (.getfield 10, 3) := by decide +kernel
theorem dX6_lose_4 : decode cX6_lose 4 = .ok (.iconst 0, 1) := by decide +kernel
theorem dX6_lose_5 : decode cX6_lose 5 = .ok (.invokevirtual 54, 3) := by decide +kernel
theorem dX6_lose_8 : decode cX6_lose 8 = .ok (.ifCond .eq 6, 3) := by decide +kernel
theorem dX6_lose_11 : decode cX6_lose 11 = .ok (.bipush (-2), 2) := by decide +kernel
theorem dX6_lose_13 : decode cX6_lose 13 = .ok (.ireturn, 1) := by decide +kernel
theorem dX6_lose_14 : decode cX6_lose 14 = .ok (.aload_n 0, 1) := by decide +kernel
theorem dX6_lose_15 : decode cX6_lose 15 = .ok (.getfield 10, 3) := by decide +kernel
theorem dX6_lose_18 : decode cX6_lose 18 = .ok (.invokevirtual 58, 3) := by decide +kernel
theorem dX6_lose_21 : decode cX6_lose 21 = .ok (.astore_n 1, 1) := by decide +kernel
theorem dX6_lose_22 : decode cX6_lose 22 = .ok (.aload_n 0, 1) := by decide +kernel
theorem dX6_lose_23 : decode cX6_lose 23 = .ok (.iconst 0, 1) := by decide +kernel
theorem dX6_lose_24 : decode cX6_lose 24 = .ok (.invokevirtual 62, 3) := by decide +kernel
theorem dX6_lose_27 : decode cX6_lose 27 = .ok (.aload_n 1, 1) := by decide +kernel
theorem dX6_lose_28 : decode cX6_lose 28 = .ok (.getfield 74, 3) := by decide +kernel
theorem dX6_lose_31 : decode cX6_lose 31 = .ok (.ireturn, 1) := by decide +kernel
theorem dX6_best_0 : decode cX6_best 0 = .ok (.aload_n 0, 1) := by decide +kernel
theorem dX6_best_1 : decode cX6_best 1 = .ok (.getfield 10, 3) := by decide +kernel
theorem dX6_best_4 : decode cX6_best 4 = .ok (.invokevirtual 77, 3) := by decide +kernel
theorem dX6_best_7 : decode cX6_best 7 = .ok (.ifCond .eq 6, 3) := by decide +kernel
theorem dX6_best_10 : decode cX6_best 10 = .ok (.bipush (-2), 2) := by decide +kernel
theorem dX6_best_12 : decode cX6_best 12 = .ok (.ireturn, 1) := by decide +kernel
theorem dX6_best_13 : decode cX6_best 13 = .ok (.aload_n 0, 1) := by decide +kernel
theorem dX6_best_14 : decode cX6_best 14 = .ok (.invokevirtual 81, 3) := by decide +kernel
theorem dX6_best_17 : decode cX6_best 17 = .ok (.aload_n 0, 1) := by decide +kernel
theorem dX6_best_18 : decode cX6_best 18 = .ok (.getfield 10, 3) := by decide +kernel
theorem dX6_best_21 : decode cX6_best 21 = .ok (.invokevirtual 85, 3) := by decide +kernel
theorem dX6_best_24 : decode cX6_best 24 = .ok (.istore_n 1, 1) := by decide +kernel
theorem dX6_best_25 : decode cX6_best 25 = .ok (.aload_n 0, 1) := by decide +kernel
theorem dX6_best_26 : decode cX6_best 26 = .ok (.iload_n 1, 1) := by decide +kernel
theorem dX6_best_27 : decode cX6_best 27 = .ok (.invokevirtual 62, 3) := by decide +kernel
theorem dX6_best_30 : decode cX6_best 30 = .ok (.iload_n 1, 1) := by decide +kernel
theorem dX6_best_31 : decode cX6_best 31 = .ok (.ireturn, 1) := by decide +kernel
theorem dX6_greedy_0 : decode cX6_greedy 0 = .ok (.aload_n 0, 1) := by decide +kernel
theorem dX6_greedy_1 : decode cX6_greedy 1 = .ok (.getfield 10, 3) := by decide +kernel
theorem dX6_greedy_4 : decode cX6_greedy 4 = .ok (.invokevirtual 77, 3) := by decide +kernel
theorem dX6_greedy_7 : decode cX6_greedy 7 = .ok (.ifCond .eq 6, 3) := by decide +kernel
theorem dX6_greedy_10 : decode cX6_greedy 10 = .ok (.bipush (-2), 2) := by decide +kernel
theorem dX6_greedy_12 : decode cX6_greedy 12 = .ok (.ireturn, 1) := by decide +kernel
theorem dX6_greedy_13 : decode cX6_greedy 13 = .ok (.aload_n 0, 1) := by decide +kernel
theorem dX6_greedy_14 : decode cX6_greedy 14 = .ok (.getfield 10, 3) := by decide +kernel
theorem dX6_greedy_17 : decode cX6_greedy 17 = .ok (.invokevirtual 89, 3) := by decide +kernel
theorem dX6_greedy_20 : decode cX6_greedy 20 = .ok (.istore_n 1, 1) := by decide +kernel
theorem dX6_greedy_21 : decode cX6_greedy 21 = .ok (.aload_n 0, 1) := by decide +kernel
theorem dX6_greedy_22 : decode cX6_greedy 22 = .ok (.iload_n 1, 1) := by decide +kernel
theorem dX6_greedy_23 : decode cX6_greedy 23 = .ok (.invokevirtual 62, 3) := by decide +kernel
theorem dX6_greedy_26 : decode cX6_greedy 26 = .ok (.iload_n 1, 1) := by decide +kernel
theorem dX6_greedy_27 : decode cX6_greedy 27 = .ok (.ireturn, 1) := by decide +kernel
theorem dX6_again_0 : decode cX6_again 0 = .ok (.aload_n 0, 1) := by decide +kernel
theorem dX6_again_1 : decode cX6_again 1 = .ok (.getfield 25, 3) := by decide +kernel
theorem dX6_again_4 : decode cX6_again 4 = .ok (.aload_n 0, 1) := by decide +kernel
theorem dX6_again_5 : decode cX6_again 5 = .ok (.getfield 10, 3) := by decide +kernel
theorem dX6_again_8 : decode cX6_again 8 = .ok (.invokevirtual 93, 3) := by decide +kernel
theorem dX6_again_11 : decode cX6_again 11 = .ok (.aload_n 0, 1) := by decide +kernel
theorem dX6_again_12 : decode cX6_again 12 = .ok (.getfield 10, 3) := by decide +kernel
theorem dX6_again_15 : decode cX6_again 15 = .ok (.invokevirtual 97, 3) := by decide +kernel
theorem dX6_again_18 : decode cX6_again 18 = .ok (.aload_n 0, 1) := by decide +kernel
theorem dX6_again_19 : decode cX6_again 19 = .ok (.getfield 10, 3) := by decide +kernel
theorem dX6_again_22 : decode cX6_again 22 = .ok (.getfield 100, 3) := by decide +kernel
theorem dX6_again_25 : decode cX6_again 25 = .ok (.getfield 104, 3) := by decide +kernel
theorem dX6_again_28 : decode cX6_again 28 = .ok (.ireturn, 1) := by decide +kernel
theorem dX6_set_0 : decode cX6_set 0 = .ok (.iload_n 1, 1) := by decide +kernel
theorem dX6_set_1 : decode cX6_set 1 = .ok (.ifCond .ne 42, 3) := by decide +kernel
theorem dX6_set_4 : decode cX6_set 4 = .ok (.iload_n 2, 1) := by decide +kernel
theorem dX6_set_5 : decode cX6_set 5 = .ok (.iconst 1, 1) := by decide +kernel
theorem dX6_set_6 : decode cX6_set 6 = .ok (.if_icmp .lt 37, 3) := by decide +kernel
theorem dX6_set_9 : decode cX6_set 9 = .ok (.iload_n 2, 1) := by decide +kernel
theorem dX6_set_10 : decode cX6_set 10 = .ok (.iconst 4, 1) := by decide +kernel
theorem dX6_set_11 : decode cX6_set 11 = .ok (.if_icmp .gt 32, 3) := by decide +kernel
theorem dX6_set_14 : decode cX6_set 14 = .ok (.aload_n 0, 1) := by decide +kernel
theorem dX6_set_15 : decode cX6_set 15 = .ok (.getfield 10, 3) := by decide +kernel
theorem dX6_set_18 : decode cX6_set 18 = .ok (.getfield 109, 3) := by decide +kernel
theorem dX6_set_21 : decode cX6_set 21 = .ok (.istore_n 3, 1) := by decide +kernel
theorem dX6_set_22 : decode cX6_set 22 = .ok (.aload_n 0, 1) := by decide +kernel
theorem dX6_set_23 : decode cX6_set 23 = .ok (.getfield 25, 3) := by decide +kernel
theorem dX6_set_26 : decode cX6_set 26 = .ok (.aload_n 0, 1) := by decide +kernel
theorem dX6_set_27 : decode cX6_set 27 = .ok (.getfield 10, 3) := by decide +kernel
theorem dX6_set_30 : decode cX6_set 30 = .ok (.invokevirtual 93, 3) := by decide +kernel
theorem dX6_set_33 : decode cX6_set 33 = .ok (.aload_n 0, 1) := by decide +kernel
theorem dX6_set_34 : decode cX6_set 34 = .ok (.getfield 10, 3) := by decide +kernel
theorem dX6_set_37 : decode cX6_set 37 = .ok (.iload_n 2, 1) := by decide +kernel
theorem dX6_set_38 : decode cX6_set 38 = .ok (.putfield 109, 3) := by decide +kernel
theorem dX6_set_41 : decode cX6_set 41 = .ok (.iload_n 3, 1) := by decide +kernel
theorem dX6_set_42 : decode cX6_set 42 = .ok (.ireturn, 1) := by decide +kernel
theorem dX6_set_43 : decode cX6_set 43 = .ok (.iload_n 1, 1) := by decide +kernel
theorem dX6_set_44 : decode cX6_set 44 = .ok (.iconst 1, 1) := by decide +kernel
theorem dX6_set_45 : decode cX6_set 45 = .ok (.if_icmp .ne 42, 3) := by decide +kernel
theorem dX6_set_48 : decode cX6_set 48 = .ok (.iload_n 2, 1) := by decide +kernel
theorem dX6_set_49 : decode cX6_set 49 = .ok (.iconst 1, 1) := by decide +kernel
theorem dX6_set_50 : decode cX6_set 50 = .ok (.if_icmp .lt 37, 3) := by decide +kernel
theorem dX6_set_53 : decode cX6_set 53 = .ok (.iload_n 2, 1) := by decide +kernel
theorem dX6_set_54 : decode cX6_set 54 = .ok (.iconst 3, 1) := by decide +kernel
theorem dX6_set_55 : decode cX6_set 55 = .ok (.if_icmp .gt 32, 3) := by decide +kernel
theorem dX6_set_58 : decode cX6_set 58 = .ok (.aload_n 0, 1) := by decide +kernel
theorem dX6_set_59 : decode cX6_set 59 = .ok (.getfield 10, 3) := by decide +kernel
theorem dX6_set_62 : decode cX6_set 62 = .ok (.getfield 112, 3) := by decide +kernel
theorem dX6_set_65 : decode cX6_set 65 = .ok (.istore_n 3, 1) := by decide +kernel
theorem dX6_set_66 : decode cX6_set 66 = .ok (.aload_n 0, 1) := by decide +kernel
theorem dX6_set_67 : decode cX6_set 67 = .ok (.getfield 25, 3) := by decide +kernel
theorem dX6_set_70 : decode cX6_set 70 = .ok (.aload_n 0, 1) := by decide +kernel
theorem dX6_set_71 : decode cX6_set 71 = .ok (.getfield 10, 3) := by decide +kernel
theorem dX6_set_74 : decode cX6_set 74 = .ok (.invokevirtual 93, 3) := by decide +kernel
theorem dX6_set_77 : decode cX6_set 77 = .ok (.aload_n 0, 1) := by decide +kernel
theorem dX6_set_78 : decode cX6_set 78 = .ok (.getfield 10, 3) := by decide +kernel
theorem dX6_set_81 : decode cX6_set 81 = .ok (.iload_n 2, 1) := by decide +kernel
theorem dX6_set_82 : decode cX6_set 82 = .ok (.putfield 112, 3) := by decide +kernel
theorem dX6_set_85 : decode cX6_set 85 = .ok (.iload_n 3, 1) := by decide +kernel
theorem dX6_set_86 : decode cX6_set 86 = .ok (.ireturn, 1) := by decide +kernel
theorem dX6_set_87 : decode cX6_set 87 = .ok (.iconst (-1), 1) := by decide +kernel
theorem dX6_set_88 : decode cX6_set 88 = .ok (.ireturn, 1) := by decide +kernel
theorem dX6_append_0 : decode cX6_append 0 = .ok (.iload_n 1, 1) := by decide +kernel
theorem dX6_append_1 : decode cX6_append 1 = .ok (.bipush 33, 2) := by decide +kernel
theorem dX6_append_3 : decode cX6_append 3 = .ok (.if_icmp .lt 9, 3) := by decide +kernel
theorem dX6_append_6 : decode cX6_append 6 = .ok (.iload_n 1, 1) := by decide +kernel
theorem dX6_append_7 : decode cX6_append 7 = .ok (.bipush 126, 2) := by decide +kernel
theorem dX6_append_9 : decode cX6_append 9 = .ok (.if_icmp .le 5, 3) := by decide +kernel
theorem dX6_append_12 : decode cX6_append 12 = .ok (.iconst (-1), 1) := by decide +kernel
theorem dX6_append_13 : decode cX6_append 13 = .ok (.ireturn, 1) := by decide +kernel
theorem dX6_append_14 : decode cX6_append 14 = .ok (.aload_n 0, 1) := by decide +kernel
theorem dX6_append_15 : decode cX6_append 15 = .ok (.getfield 32, 3) := by decide +kernel
theorem dX6_append_18 : decode cX6_append 18 = .ok (.invokevirtual 115, 3) := by decide +kernel
theorem dX6_append_21 : decode cX6_append 21 = .ok (.ifCond .eq 8, 3) := by decide +kernel
theorem dX6_append_24 : decode cX6_append 24 = .ok (.bipush (-3), 2) := by decide +kernel
theorem dX6_append_26 : decode cX6_append 26 = .ok (.goto 11, 3) := by decide +kernel
theorem dX6_append_29 : decode cX6_append 29 = .ok (.aload_n 0, 1) := by decide +kernel
theorem dX6_append_30 : decode cX6_append 30 = .ok (.getfield 32, 3) := by decide +kernel
theorem dX6_append_33 : decode cX6_append 33 = .ok (.iload_n 1, 1) := by decide +kernel
theorem dX6_append_34 : decode cX6_append 34 = .ok (.invokevirtual 118, 3) := by decide +kernel
theorem dX6_append_37 : decode cX6_append 37 = .ok (.ireturn, 1) := by decide +kernel
theorem dX6_clear_0 : decode cX6_clear 0 = .ok (.aload_n 0, 1) := by decide +kernel
theorem dX6_clear_1 : decode cX6_clear 1 = .ok (.getfield 32, 3) := by decide +kernel
theorem dX6_clear_4 : decode cX6_clear 4 = .ok (.invokevirtual 121, 3) := by decide +kernel
theorem dX6_clear_7 : decode cX6_clear 7 = .ok (.ireturn, 1) := by decide +kernel
theorem dX6_fault_0 : decode cX6_fault 0 = .ok (.iload_n 1, 1) := by decide +kernel
theorem dX6_fault_1 : decode cX6_fault 1 = .ok (.ifCond .eq 10, 3) := by decide +kernel
theorem dX6_fault_4 : decode cX6_fault 4 = .ok (.iload_n 1, 1) := by decide +kernel
theorem dX6_fault_5 : decode cX6_fault 5 = .ok (.iconst 1, 1) := by decide +kernel
theorem dX6_fault_6 : decode cX6_fault 6 = .ok (.if_icmp .eq 5, 3) := by decide +kernel
theorem dX6_fault_9 : decode cX6_fault 9 = .ok (.iconst (-1), 1) := by decide +kernel
theorem dX6_fault_10 : decode cX6_fault 10 = .ok (.ireturn, 1) := by decide +kernel
theorem dX6_fault_11 : decode cX6_fault 11 = .ok (.aload_n 0, 1) := by decide +kernel
theorem dX6_fault_12 : decode cX6_fault 12 = .ok (.getfield 32, 3) := by decide +kernel
theorem dX6_fault_15 : decode cX6_fault 15 = .ok (.iload_n 1, 1) := by decide +kernel
theorem dX6_fault_16 : decode cX6_fault 16 = .ok (.invokevirtual 124, 3) := by decide +kernel
theorem dX6_fault_19 : decode cX6_fault 19 = .ok (.ireturn, 1) := by decide +kernel
theorem dX6_road_0 : decode cX6_road 0 = .ok (.aload_n 0, 1) := by decide +kernel
theorem dX6_road_1 : decode cX6_road 1 = .ok (.getfield 32, 3) := by decide +kernel
theorem dX6_road_4 : decode cX6_road 4 = .ok (.iconst 0, 1) := by decide +kernel
theorem dX6_road_5 : decode cX6_road 5 = .ok (.invokevirtual 124, 3) := by decide +kernel
theorem dX6_road_8 : decode cX6_road 8 = .ok (.bipush (-4), 2) := by decide +kernel
theorem dX6_road_10 : decode cX6_road 10 = .ok (.if_icmp .eq 6, 3) := by decide +kernel
theorem dX6_road_13 : decode cX6_road 13 = .ok (.bipush (-2), 2) := by decide +kernel
theorem dX6_road_15 : decode cX6_road 15 = .ok (.ireturn, 1) := by decide +kernel
theorem dX6_road_16 : decode cX6_road 16 = .ok (.aload_n 0, 1) := by decide +kernel
theorem dX6_road_17 : decode cX6_road 17 = .ok (.getfield 25, 3) := by decide +kernel
theorem dX6_road_20 : decode cX6_road 20 = .ok (.aload_n 0, 1) := by decide +kernel
theorem dX6_road_21 : decode cX6_road 21 = .ok (.getfield 10, 3) := by decide +kernel
theorem dX6_road_24 : decode cX6_road 24 = .ok (.invokevirtual 93, 3) := by decide +kernel
theorem dX6_road_27 : decode cX6_road 27 = .ok (.aload_n 0, 1) := by decide +kernel
theorem dX6_road_28 : decode cX6_road 28 = .ok (.getfield 32, 3) := by decide +kernel
theorem dX6_road_31 : decode cX6_road 31 = .ok (.aload_n 0, 1) := by decide +kernel
theorem dX6_road_32 : decode cX6_road 32 = .ok (.getfield 10, 3) := by decide +kernel
theorem dX6_road_35 : decode cX6_road 35 = .ok (.getfield 100, 3) := by decide +kernel
theorem dX6_road_38 : decode cX6_road 38 = .ok (.invokevirtual 127, 3) := by decide +kernel
theorem dX6_road_41 : decode cX6_road 41 = .ok (.aload_n 0, 1) := by decide +kernel
theorem dX6_road_42 : decode cX6_road 42 = .ok (.getfield 32, 3) := by decide +kernel
theorem dX6_road_45 : decode cX6_road 45 = .ok (.invokevirtual 121, 3) := by decide +kernel
theorem dX6_road_48 : decode cX6_road 48 = .ok (.pop, 1) := by decide +kernel
theorem dX6_road_49 : decode cX6_road 49 = .ok (.aload_n 0, 1) := by decide +kernel
theorem dX6_road_50 : decode cX6_road 50 = .ok (.getfield 10, 3) := by decide +kernel
theorem dX6_road_53 : decode cX6_road 53 = .ok (.invokevirtual 97, 3) := by decide +kernel
theorem dX6_road_56 : decode cX6_road 56 = .ok (.aload_n 0, 1) := by decide +kernel
theorem dX6_road_57 : decode cX6_road 57 = .ok (.getfield 10, 3) := by decide +kernel
theorem dX6_road_60 : decode cX6_road 60 = .ok (.getfield 100, 3) := by decide +kernel
theorem dX6_road_63 : decode cX6_road 63 = .ok (.getfield 104, 3) := by decide +kernel
theorem dX6_road_66 : decode cX6_road 66 = .ok (.ireturn, 1) := by decide +kernel
theorem dX6_race_0 : decode cX6_race 0 = .ok (.aload_n 0, 1) := by decide +kernel
theorem dX6_race_1 : decode cX6_race 1 = .ok (.getfield 32, 3) := by decide +kernel
theorem dX6_race_4 : decode cX6_race 4 = .ok (.iconst 1, 1) := by decide +kernel
theorem dX6_race_5 : decode cX6_race 5 = .ok (.invokevirtual 124, 3) := by decide +kernel
theorem dX6_race_8 : decode cX6_race 8 = .ok (.bipush (-4), 2) := by decide +kernel
theorem dX6_race_10 : decode cX6_race 10 = .ok (.if_icmp .eq 6, 3) := by decide +kernel
theorem dX6_race_13 : decode cX6_race 13 = .ok (.bipush (-2), 2) := by decide +kernel
theorem dX6_race_15 : decode cX6_race 15 = .ok (.ireturn, 1) := by decide +kernel
theorem dX6_race_16 : decode cX6_race 16 = .ok (.aload_n 0, 1) := by decide +kernel
theorem dX6_race_17 : decode cX6_race 17 = .ok (.getfield 25, 3) := by decide +kernel
theorem dX6_race_20 : decode cX6_race 20 = .ok (.aload_n 0, 1) := by decide +kernel
theorem dX6_race_21 : decode cX6_race 21 = .ok (.getfield 10, 3) := by decide +kernel
theorem dX6_race_24 : decode cX6_race 24 = .ok (.invokevirtual 93, 3) := by decide +kernel
theorem dX6_race_27 : decode cX6_race 27 = .ok (.aload_n 0, 1) := by decide +kernel
theorem dX6_race_28 : decode cX6_race 28 = .ok (.iconst 0, 1) := by decide +kernel
theorem dX6_race_29 : decode cX6_race 29 = .ok (.putfield 51, 3) := by decide +kernel
theorem dX6_race_32 : decode cX6_race 32 = .ok (.iconst 0, 1) := by decide +kernel
theorem dX6_race_33 : decode cX6_race 33 = .ok (.istore_n 1, 1) := by decide +kernel
theorem dX6_race_34 : decode cX6_race 34 = .ok (.iconst 0, 1) := by decide +kernel
theorem dX6_race_35 : decode cX6_race 35 = .ok (.istore_n 2, 1) := by decide +kernel
theorem dX6_race_36 : decode cX6_race 36 = .ok (.iload_n 2, 1) := by decide +kernel
theorem dX6_race_37 : decode cX6_race 37 = .ok (.aload_n 0, 1) := by decide +kernel
theorem dX6_race_38 : decode cX6_race 38 = .ok (.getfield 32, 3) := by decide +kernel
theorem dX6_race_41 : decode cX6_race 41 = .ok (.getfield 131, 3) := by decide +kernel
theorem dX6_race_44 : decode cX6_race 44 = .ok (.if_icmp .ge 67, 3) := by decide +kernel
theorem dX6_race_47 : decode cX6_race 47 = .ok (.aload_n 0, 1) := by decide +kernel
theorem dX6_race_48 : decode cX6_race 48 = .ok (.getfield 51, 3) := by decide +kernel
theorem dX6_race_51 : decode cX6_race 51 = .ok (.ifCond .ne 60, 3) := by decide +kernel
theorem dX6_race_54 : decode cX6_race 54 = .ok (.aload_n 0, 1) := by decide +kernel
theorem dX6_race_55 : decode cX6_race 55 = .ok (.aload_n 0, 1) := by decide +kernel
theorem dX6_race_56 : decode cX6_race 56 = .ok (.getfield 32, 3) := by decide +kernel
theorem dX6_race_59 : decode cX6_race 59 = .ok (.iload_n 2, 1) := by decide +kernel
theorem dX6_race_60 : decode cX6_race 60 = .ok (.invokevirtual 134, 3) := by decide +kernel
theorem dX6_race_63 : decode cX6_race 63 = .ok (.invokevirtual 137, 3) := by decide +kernel
theorem dX6_race_66 : decode cX6_race 66 = .ok (.istore_n 3, 1) := by decide +kernel
theorem dX6_race_67 : decode cX6_race 67 = .ok (.aload_n 0, 1) := by decide +kernel
theorem dX6_race_68 : decode cX6_race 68 = .ok (.aload_n 0, 1) := by decide +kernel
theorem dX6_race_69 : decode cX6_race 69 = .ok (.getfield 10, 3) := by decide +kernel
theorem dX6_race_72 : decode cX6_race 72 = .ok (.iload_n 3, 1) := by decide +kernel
theorem dX6_race_73 : decode cX6_race 73 = .ok (.invokevirtual 54, 3) := by decide +kernel
theorem dX6_race_76 : decode cX6_race 76 = .ok (.putfield 51, 3) := by decide +kernel
theorem dX6_race_79 : decode cX6_race 79 = .ok (.aload_n 0, 1) := by decide +kernel
theorem dX6_race_80 : decode cX6_race 80 = .ok (.getfield 51, 3) := by decide +kernel
theorem dX6_race_83 : decode cX6_race 83 = .ok (.ifCond .ne 17, 3) := by decide +kernel
theorem dX6_race_86 : decode cX6_race 86 = .ok (.aload_n 0, 1) := by decide +kernel
theorem dX6_race_87 : decode cX6_race 87 = .ok (.getfield 10, 3) := by decide +kernel
theorem dX6_race_90 : decode cX6_race 90 = .ok (.iload_n 3, 1) := by decide +kernel
theorem dX6_race_91 : decode cX6_race 91 = .ok (.invokevirtual 140, 3) := by decide +kernel
theorem dX6_race_94 : decode cX6_race 94 = .ok (.iinc 1 1, 3) := by decide +kernel
theorem dX6_race_97 : decode cX6_race 97 = .ok (.goto 8, 3) := by decide +kernel
theorem dX6_race_100 : decode cX6_race 100 = .ok (.aload_n 0, 1) := by decide +kernel
theorem dX6_race_101 : decode cX6_race 101 = .ok (.iload_n 2, 1) := by decide +kernel
theorem dX6_race_102 : decode cX6_race 102 = .ok (.putfield 47, 3) := by decide +kernel
theorem dX6_race_105 : decode cX6_race 105 = .ok (.iinc 2 1, 3) := by decide +kernel
theorem dX6_race_108 : decode cX6_race 108 = .ok (.goto (-72), 3) := by decide +kernel
theorem dX6_race_111 : decode cX6_race 111 = .ok (.aload_n 0, 1) := by decide +kernel
theorem dX6_race_112 : decode cX6_race 112 = .ok (.getfield 32, 3) := by decide +kernel
theorem dX6_race_115 : decode cX6_race 115 = .ok (.invokevirtual 121, 3) := by decide +kernel
theorem dX6_race_118 : decode cX6_race 118 = .ok (.pop, 1) := by decide +kernel
theorem dX6_race_119 : decode cX6_race 119 = .ok (.iload_n 1, 1) := by decide +kernel
theorem dX6_race_120 : decode cX6_race 120 = .ok (.ireturn, 1) := by decide +kernel
theorem dX6_why_0 : decode cX6_why 0 = .ok (.iload_n 1, 1) := by decide +kernel
theorem dX6_why_1 : decode cX6_why 1 = .ok (.ifCond .eq 10, 3) := by decide +kernel
theorem dX6_why_4 : decode cX6_why 4 = .ok (.iload_n 1, 1) := by decide +kernel
theorem dX6_why_5 : decode cX6_why 5 = .ok (.iconst 1, 1) := by decide +kernel
theorem dX6_why_6 : decode cX6_why 6 = .ok (.if_icmp .eq 5, 3) := by decide +kernel
theorem dX6_why_9 : decode cX6_why 9 = .ok (.iconst (-1), 1) := by decide +kernel
theorem dX6_why_10 : decode cX6_why 10 = .ok (.ireturn, 1) := by decide +kernel
theorem dX6_why_11 : decode cX6_why 11 = .ok (.aload_n 0, 1) := by decide +kernel
theorem dX6_why_12 : decode cX6_why 12 = .ok (.getfield 51, 3) := by decide +kernel
theorem dX6_why_15 : decode cX6_why 15 = .ok (.ifCond .ne 6, 3) := by decide +kernel
theorem dX6_why_18 : decode cX6_why 18 = .ok (.bipush (-4), 2) := by decide +kernel
theorem dX6_why_20 : decode cX6_why 20 = .ok (.ireturn, 1) := by decide +kernel
theorem dX6_why_21 : decode cX6_why 21 = .ok (.iload_n 1, 1) := by decide +kernel
theorem dX6_why_22 : decode cX6_why 22 = .ok (.ifCond .ne 10, 3) := by decide +kernel
theorem dX6_why_25 : decode cX6_why 25 = .ok (.aload_n 0, 1) := by decide +kernel
theorem dX6_why_26 : decode cX6_why 26 = .ok (.getfield 47, 3) := by decide +kernel
theorem dX6_why_29 : decode cX6_why 29 = .ok (.goto 7, 3) := by decide +kernel
theorem dX6_why_32 : decode cX6_why 32 = .ok (.aload_n 0, 1) := by decide +kernel
theorem dX6_why_33 : decode cX6_why 33 = .ok (.getfield 51, 3) := by decide +kernel
theorem dX6_why_36 : decode cX6_why 36 = .ok (.ireturn, 1) := by decide +kernel
theorem dX6_mile_0 : decode cX6_mile 0 = .ok (.iload_n 1, 1) := by decide +kernel
theorem dX6_mile_1 : decode cX6_mile 1 = .ok (.iconst 1, 1) := by decide +kernel
theorem dX6_mile_2 : decode cX6_mile 2 = .ok (.if_icmp .lt 17, 3) := by decide +kernel
theorem dX6_mile_5 : decode cX6_mile 5 = .ok (.iload_n 1, 1) := by decide +kernel
theorem dX6_mile_6 : decode cX6_mile 6 = .ok (.aload_n 0, 1) := by decide +kernel
theorem dX6_mile_7 : decode cX6_mile 7 = .ok (.getfield 10, 3) := by decide +kernel
theorem dX6_mile_10 : decode cX6_mile 10 = .ok (.getfield 100, 3) := by decide +kernel
theorem dX6_mile_13 : decode cX6_mile 13 = .ok (.getfield 104, 3) := by decide +kernel
theorem dX6_mile_16 : decode cX6_mile 16 = .ok (.if_icmp .le 5, 3) := by decide +kernel
theorem dX6_mile_19 : decode cX6_mile 19 = .ok (.iconst (-1), 1) := by decide +kernel
theorem dX6_mile_20 : decode cX6_mile 20 = .ok (.ireturn, 1) := by decide +kernel
theorem dX6_mile_21 : decode cX6_mile 21 = .ok (.iload_n 2, 1) := by decide +kernel
theorem dX6_mile_22 : decode cX6_mile 22 = .ok (.tableswitch 81 0 3 #[30, 42, 51, 66], 30) := by decide +kernel
theorem dX6_mile_52 : decode cX6_mile 52 = .ok (.aload_n 0, 1) := by decide +kernel
theorem dX6_mile_53 : decode cX6_mile 53 = .ok (.getfield 10, 3) := by decide +kernel
theorem dX6_mile_56 : decode cX6_mile 56 = .ok (.getfield 100, 3) := by decide +kernel
theorem dX6_mile_59 : decode cX6_mile 59 = .ok (.iload_n 1, 1) := by decide +kernel
theorem dX6_mile_60 : decode cX6_mile 60 = .ok (.invokevirtual 143, 3) := by decide +kernel
theorem dX6_mile_63 : decode cX6_mile 63 = .ok (.ireturn, 1) := by decide +kernel
theorem dX6_mile_64 : decode cX6_mile 64 = .ok (.aload_n 0, 1) := by decide +kernel
theorem dX6_mile_65 : decode cX6_mile 65 = .ok (.getfield 10, 3) := by decide +kernel
theorem dX6_mile_68 : decode cX6_mile 68 = .ok (.iload_n 1, 1) := by decide +kernel
theorem dX6_mile_69 : decode cX6_mile 69 = .ok (.invokevirtual 146, 3) := by decide +kernel
theorem dX6_mile_72 : decode cX6_mile 72 = .ok (.ireturn, 1) := by decide +kernel
theorem dX6_mile_73 : decode cX6_mile 73 = .ok (.aload_n 0, 1) := by decide +kernel
theorem dX6_mile_74 : decode cX6_mile 74 = .ok (.getfield 10, 3) := by decide +kernel
theorem dX6_mile_77 : decode cX6_mile 77 = .ok (.getfield 149, 3) := by decide +kernel
theorem dX6_mile_80 : decode cX6_mile 80 = .ok (.getfield 153, 3) := by decide +kernel
theorem dX6_mile_83 : decode cX6_mile 83 = .ok (.iload_n 1, 1) := by decide +kernel
theorem dX6_mile_84 : decode cX6_mile 84 = .ok (.invokestatic 157, 3) := by decide +kernel
theorem dX6_mile_87 : decode cX6_mile 87 = .ok (.ireturn, 1) := by decide +kernel
theorem dX6_mile_88 : decode cX6_mile 88 = .ok (.aload_n 0, 1) := by decide +kernel
theorem dX6_mile_89 : decode cX6_mile 89 = .ok (.getfield 10, 3) := by decide +kernel
theorem dX6_mile_92 : decode cX6_mile 92 = .ok (.getfield 161, 3) := by decide +kernel
theorem dX6_mile_95 : decode cX6_mile 95 = .ok (.getfield 153, 3) := by decide +kernel
theorem dX6_mile_98 : decode cX6_mile 98 = .ok (.iload_n 1, 1) := by decide +kernel
theorem dX6_mile_99 : decode cX6_mile 99 = .ok (.invokestatic 157, 3) := by decide +kernel
theorem dX6_mile_102 : decode cX6_mile 102 = .ok (.ireturn, 1) := by decide +kernel
theorem dX6_mile_103 : decode cX6_mile 103 = .ok (.iconst (-1), 1) := by decide +kernel
theorem dX6_mile_104 : decode cX6_mile 104 = .ok (.ireturn, 1) := by decide +kernel
theorem dX6_wagon_0 : decode cX6_wagon 0 = .ok (.iload_n 1, 1) := by decide +kernel
theorem dX6_wagon_1 : decode cX6_wagon 1 = .ok (.ifCond .eq 10, 3) := by decide +kernel
theorem dX6_wagon_4 : decode cX6_wagon 4 = .ok (.iload_n 1, 1) := by decide +kernel
theorem dX6_wagon_5 : decode cX6_wagon 5 = .ok (.iconst 1, 1) := by decide +kernel
theorem dX6_wagon_6 : decode cX6_wagon 6 = .ok (.if_icmp .eq 5, 3) := by decide +kernel
theorem dX6_wagon_9 : decode cX6_wagon 9 = .ok (.iconst (-1), 1) := by decide +kernel
theorem dX6_wagon_10 : decode cX6_wagon 10 = .ok (.ireturn, 1) := by decide +kernel
theorem dX6_wagon_11 : decode cX6_wagon 11 = .ok (.iload_n 1, 1) := by decide +kernel
theorem dX6_wagon_12 : decode cX6_wagon 12 = .ok (.ifCond .ne 17, 3) := by decide +kernel
theorem dX6_wagon_15 : decode cX6_wagon 15 = .ok (.aload_n 0, 1) := by decide +kernel
theorem dX6_wagon_16 : decode cX6_wagon 16 = .ok (.getfield 10, 3) := by decide +kernel
theorem dX6_wagon_19 : decode cX6_wagon 19 = .ok (.getfield 149, 3) := by decide +kernel
theorem dX6_wagon_22 : decode cX6_wagon 22 = .ok (.iload_n 2, 1) := by decide +kernel
theorem dX6_wagon_23 : decode cX6_wagon 23 = .ok (.invokevirtual 164, 3) := by decide +kernel
theorem dX6_wagon_26 : decode cX6_wagon 26 = .ok (.goto 14, 3) := by decide +kernel
theorem dX6_wagon_29 : decode cX6_wagon 29 = .ok (.aload_n 0, 1) := by decide +kernel
theorem dX6_wagon_30 : decode cX6_wagon 30 = .ok (.getfield 10, 3) := by decide +kernel
theorem dX6_wagon_33 : decode cX6_wagon 33 = .ok (.getfield 161, 3) := by decide +kernel
theorem dX6_wagon_36 : decode cX6_wagon 36 = .ok (.iload_n 2, 1) := by decide +kernel
theorem dX6_wagon_37 : decode cX6_wagon 37 = .ok (.invokevirtual 164, 3) := by decide +kernel
theorem dX6_wagon_40 : decode cX6_wagon 40 = .ok (.ireturn, 1) := by decide +kernel
theorem dX6_ends_0 : decode cX6_ends 0 = .ok (.iload_n 1, 1) := by decide +kernel
theorem dX6_ends_1 : decode cX6_ends 1 = .ok (.iconst 1, 1) := by decide +kernel
theorem dX6_ends_2 : decode cX6_ends 2 = .ok (.if_icmp .lt 8, 3) := by decide +kernel
theorem dX6_ends_5 : decode cX6_ends 5 = .ok (.iload_n 1, 1) := by decide +kernel
theorem dX6_ends_6 : decode cX6_ends 6 = .ok (.iconst 4, 1) := by decide +kernel
theorem dX6_ends_7 : decode cX6_ends 7 = .ok (.if_icmp .le 5, 3) := by decide +kernel
theorem dX6_ends_10 : decode cX6_ends 10 = .ok (.iconst (-1), 1) := by decide +kernel
theorem dX6_ends_11 : decode cX6_ends 11 = .ok (.ireturn, 1) := by decide +kernel
theorem dX6_ends_12 : decode cX6_ends 12 = .ok (.aload_n 0, 1) := by decide +kernel
theorem dX6_ends_13 : decode cX6_ends 13 = .ok (.getfield 10, 3) := by decide +kernel
theorem dX6_ends_16 : decode cX6_ends 16 = .ok (.iload_n 1, 1) := by decide +kernel
theorem dX6_ends_17 : decode cX6_ends 17 = .ok (.invokevirtual 54, 3) := by decide +kernel
theorem dX6_ends_20 : decode cX6_ends 20 = .ok (.ifCond .eq 6, 3) := by decide +kernel
theorem dX6_ends_23 : decode cX6_ends 23 = .ok (.bipush (-2), 2) := by decide +kernel
theorem dX6_ends_25 : decode cX6_ends 25 = .ok (.ireturn, 1) := by decide +kernel
theorem dX6_ends_26 : decode cX6_ends 26 = .ok (.aload_n 0, 1) := by decide +kernel
theorem dX6_ends_27 : decode cX6_ends 27 = .ok (.getfield 10, 3) := by decide +kernel
theorem dX6_ends_30 : decode cX6_ends 30 = .ok (.getfield 100, 3) := by decide +kernel
theorem dX6_ends_33 : decode cX6_ends 33 = .ok (.aload_n 0, 1) := by decide +kernel
theorem dX6_ends_34 : decode cX6_ends 34 = .ok (.getfield 10, 3) := by decide +kernel
theorem dX6_ends_37 : decode cX6_ends 37 = .ok (.invokevirtual 58, 3) := by decide +kernel
theorem dX6_ends_40 : decode cX6_ends 40 = .ok (.getfield 66, 3) := by decide +kernel
theorem dX6_ends_43 : decode cX6_ends 43 = .ok (.aload_n 0, 1) := by decide +kernel
theorem dX6_ends_44 : decode cX6_ends 44 = .ok (.getfield 10, 3) := by decide +kernel
theorem dX6_ends_47 : decode cX6_ends 47 = .ok (.invokevirtual 71, 3) := by decide +kernel
theorem dX6_ends_50 : decode cX6_ends 50 = .ok (.getfield 66, 3) := by decide +kernel
theorem dX6_ends_53 : decode cX6_ends 53 = .ok (.iload_n 1, 1) := by decide +kernel
theorem dX6_ends_54 : decode cX6_ends 54 = .ok (.invokevirtual 167, 3) := by decide +kernel
theorem dX6_ends_57 : decode cX6_ends 57 = .ok (.ireturn, 1) := by decide +kernel
theorem dX6_worth_0 : decode cX6_worth 0 = .ok (.iload_n 1, 1) := by decide +kernel
theorem dX6_worth_1 : decode cX6_worth 1 = .ok (.ifCond .eq 10, 3) := by decide +kernel
theorem dX6_worth_4 : decode cX6_worth 4 = .ok (.iload_n 1, 1) := by decide +kernel
theorem dX6_worth_5 : decode cX6_worth 5 = .ok (.iconst 1, 1) := by decide +kernel
theorem dX6_worth_6 : decode cX6_worth 6 = .ok (.if_icmp .eq 5, 3) := by decide +kernel
theorem dX6_worth_9 : decode cX6_worth 9 = .ok (.iconst (-1), 1) := by decide +kernel
theorem dX6_worth_10 : decode cX6_worth 10 = .ok (.ireturn, 1) := by decide +kernel
theorem dX6_worth_11 : decode cX6_worth 11 = .ok (.aload_n 0, 1) := by decide +kernel
theorem dX6_worth_12 : decode cX6_worth 12 = .ok (.getfield 10, 3) := by decide +kernel
theorem dX6_worth_15 : decode cX6_worth 15 = .ok (.invokevirtual 77, 3) := by decide +kernel
theorem dX6_worth_18 : decode cX6_worth 18 = .ok (.ifCond .eq 7, 3) := by decide +kernel
theorem dX6_worth_21 : decode cX6_worth 21 = .ok (.sipush 500, 3) := by decide +kernel
theorem dX6_worth_24 : decode cX6_worth 24 = .ok (.ireturn, 1) := by decide +kernel
theorem dX6_worth_25 : decode cX6_worth 25 = .ok (.aload_n 0, 1) := by decide +kernel
theorem dX6_worth_26 : decode cX6_worth 26 = .ok (.invokevirtual 81, 3) := by decide +kernel
theorem dX6_worth_29 : decode cX6_worth 29 = .ok (.astore_n 2, 1) := by decide +kernel
theorem dX6_worth_30 : decode cX6_worth 30 = .ok (.sipush 1000, 3) := by decide +kernel
theorem dX6_worth_33 : decode cX6_worth 33 = .ok (.iload_n 1, 1) := by decide +kernel
theorem dX6_worth_34 : decode cX6_worth 34 = .ok (.ifCond .ne 14, 3) := by decide +kernel
theorem dX6_worth_37 : decode cX6_worth 37 = .ok (.aload_n 2, 1) := by decide +kernel
theorem dX6_worth_38 : decode cX6_worth 38 = .ok (.aload_n 0, 1) := by decide +kernel
theorem dX6_worth_39 : decode cX6_worth 39 = .ok (.getfield 10, 3) := by decide +kernel
theorem dX6_worth_42 : decode cX6_worth 42 = .ok (.invokevirtual 171, 3) := by decide +kernel
theorem dX6_worth_45 : decode cX6_worth 45 = .ok (.goto 11, 3) := by decide +kernel
theorem dX6_worth_48 : decode cX6_worth 48 = .ok (.aload_n 2, 1) := by decide +kernel
theorem dX6_worth_49 : decode cX6_worth 49 = .ok (.aload_n 0, 1) := by decide +kernel
theorem dX6_worth_50 : decode cX6_worth 50 = .ok (.getfield 10, 3) := by decide +kernel
theorem dX6_worth_53 : decode cX6_worth 53 = .ok (.invokevirtual 174, 3) := by decide +kernel
theorem dX6_worth_56 : decode cX6_worth 56 = .ok (.iadd, 1) := by decide +kernel
theorem dX6_worth_57 : decode cX6_worth 57 = .ok (.ireturn, 1) := by decide +kernel
theorem dX6_worthOf_0 : decode cX6_worthOf 0 = .ok (.iload_n 1, 1) := by decide +kernel
theorem dX6_worthOf_1 : decode cX6_worthOf 1 = .ok (.iconst 1, 1) := by decide +kernel
theorem dX6_worthOf_2 : decode cX6_worthOf 2 = .ok (.if_icmp .lt 8, 3) := by decide +kernel
theorem dX6_worthOf_5 : decode cX6_worthOf 5 = .ok (.iload_n 1, 1) := by decide +kernel
theorem dX6_worthOf_6 : decode cX6_worthOf 6 = .ok (.iconst 5, 1) := by decide +kernel
theorem dX6_worthOf_7 : decode cX6_worthOf 7 = .ok (.if_icmp .le 5, 3) := by decide +kernel
theorem dX6_worthOf_10 : decode cX6_worthOf 10 = .ok (.iconst (-1), 1) := by decide +kernel
theorem dX6_worthOf_11 : decode cX6_worthOf 11 = .ok (.ireturn, 1) := by decide +kernel
theorem dX6_worthOf_12 : decode cX6_worthOf 12 = .ok (.aload_n 0, 1) := by decide +kernel
theorem dX6_worthOf_13 : decode cX6_worthOf 13 = .ok (.getfield 10, 3) := by decide +kernel
theorem dX6_worthOf_16 : decode cX6_worthOf 16 = .ok (.iload_n 1, 1) := by decide +kernel
theorem dX6_worthOf_17 : decode cX6_worthOf 17 = .ok (.invokevirtual 54, 3) := by decide +kernel
theorem dX6_worthOf_20 : decode cX6_worthOf 20 = .ok (.ifCond .eq 6, 3) := by decide +kernel
theorem dX6_worthOf_23 : decode cX6_worthOf 23 = .ok (.bipush (-2), 2) := by decide +kernel
theorem dX6_worthOf_25 : decode cX6_worthOf 25 = .ok (.ireturn, 1) := by decide +kernel
theorem dX6_worthOf_26 : decode cX6_worthOf 26 = .ok (.sipush 1000, 3) := by decide +kernel
theorem dX6_worthOf_29 : decode cX6_worthOf 29 = .ok (.aload_n 0, 1) := by decide +kernel
theorem dX6_worthOf_30 : decode cX6_worthOf 30 = .ok (.invokevirtual 81, 3) := by decide +kernel
theorem dX6_worthOf_33 : decode cX6_worthOf 33 = .ok (.aload_n 0, 1) := by decide +kernel
theorem dX6_worthOf_34 : decode cX6_worthOf 34 = .ok (.getfield 10, 3) := by decide +kernel
theorem dX6_worthOf_37 : decode cX6_worthOf 37 = .ok (.iload_n 1, 1) := by decide +kernel
theorem dX6_worthOf_38 : decode cX6_worthOf 38 = .ok (.invokevirtual 177, 3) := by decide +kernel
theorem dX6_worthOf_41 : decode cX6_worthOf 41 = .ok (.iadd, 1) := by decide +kernel
theorem dX6_worthOf_42 : decode cX6_worthOf 42 = .ok (.ireturn, 1) := by decide +kernel
theorem dX6_bestTurn_0 : decode cX6_bestTurn 0 = .ok (.aload_n 0, 1) := by decide +kernel
theorem dX6_bestTurn_1 : decode cX6_bestTurn 1 = .ok (.getfield 10, 3) := by decide +kernel
theorem dX6_bestTurn_4 : decode cX6_bestTurn 4 = .ok (.invokevirtual 77, 3) := by decide +kernel
theorem dX6_bestTurn_7 : decode cX6_bestTurn 7 = .ok (.ifCond .eq 8, 3) := by decide +kernel
theorem dX6_bestTurn_10 : decode cX6_bestTurn 10 = .ok (.bipush (-2), 2) := by decide +kernel
theorem dX6_bestTurn_12 : decode cX6_bestTurn 12 = .ok (.goto 14, 3) := by decide +kernel
theorem dX6_bestTurn_15 : decode cX6_bestTurn 15 = .ok (.aload_n 0, 1) := by decide +kernel
theorem dX6_bestTurn_16 : decode cX6_bestTurn 16 = .ok (.invokevirtual 81, 3) := by decide +kernel
theorem dX6_bestTurn_19 : decode cX6_bestTurn 19 = .ok (.aload_n 0, 1) := by decide +kernel
theorem dX6_bestTurn_20 : decode cX6_bestTurn 20 = .ok (.getfield 10, 3) := by decide +kernel
theorem dX6_bestTurn_23 : decode cX6_bestTurn 23 = .ok (.invokevirtual 85, 3) := by decide +kernel
theorem dX6_bestTurn_26 : decode cX6_bestTurn 26 = .ok (.ireturn, 1) := by decide +kernel
theorem dX6_count_0 : decode cX6_count 0 = .ok (.iload_n 1, 1) := by decide +kernel
theorem dX6_count_1 : decode cX6_count 1 = .ok (.tableswitch 213 0 13 #[71, 82, 105, 113, 121, 133, 145, 157, 165, 173, 181, 189, 197, 205], 71) := by decide +kernel
theorem dX6_count_72 : decode cX6_count 72 = .ok (.aload_n 0, 1) := by decide +kernel
theorem dX6_count_73 : decode cX6_count 73 = .ok (.getfield 10, 3) := by decide +kernel
theorem dX6_count_76 : decode cX6_count 76 = .ok (.getfield 100, 3) := by decide +kernel
theorem dX6_count_79 : decode cX6_count 79 = .ok (.getfield 104, 3) := by decide +kernel
theorem dX6_count_82 : decode cX6_count 82 = .ok (.ireturn, 1) := by decide +kernel
theorem dX6_count_83 : decode cX6_count 83 = .ok (.aload_n 0, 1) := by decide +kernel
theorem dX6_count_84 : decode cX6_count 84 = .ok (.getfield 10, 3) := by decide +kernel
theorem dX6_count_87 : decode cX6_count 87 = .ok (.invokevirtual 77, 3) := by decide +kernel
theorem dX6_count_90 : decode cX6_count 90 = .ok (.ifCond .eq 8, 3) := by decide +kernel
theorem dX6_count_93 : decode cX6_count 93 = .ok (.bipush (-4), 2) := by decide +kernel
theorem dX6_count_95 : decode cX6_count 95 = .ok (.goto 10, 3) := by decide +kernel
theorem dX6_count_98 : decode cX6_count 98 = .ok (.aload_n 0, 1) := by decide +kernel
theorem dX6_count_99 : decode cX6_count 99 = .ok (.getfield 10, 3) := by decide +kernel
theorem dX6_count_102 : decode cX6_count 102 = .ok (.getfield 181, 3) := by decide +kernel
theorem dX6_count_105 : decode cX6_count 105 = .ok (.ireturn, 1) := by decide +kernel
theorem dX6_count_106 : decode cX6_count 106 = .ok (.aload_n 0, 1) := by decide +kernel
theorem dX6_count_107 : decode cX6_count 107 = .ok (.getfield 10, 3) := by decide +kernel
theorem dX6_count_110 : decode cX6_count 110 = .ok (.getfield 184, 3) := by decide +kernel
theorem dX6_count_113 : decode cX6_count 113 = .ok (.ireturn, 1) := by decide +kernel
theorem dX6_count_114 : decode cX6_count 114 = .ok (.aload_n 0, 1) := by decide +kernel
theorem dX6_count_115 : decode cX6_count 115 = .ok (.getfield 10, 3) := by decide +kernel
theorem dX6_count_118 : decode cX6_count 118 = .ok (.getfield 187, 3) := by decide +kernel
theorem dX6_count_121 : decode cX6_count 121 = .ok (.ireturn, 1) := by decide +kernel
theorem dX6_count_122 : decode cX6_count 122 = .ok (.aload_n 0, 1) := by decide +kernel
theorem dX6_count_123 : decode cX6_count 123 = .ok (.getfield 10, 3) := by decide +kernel
theorem dX6_count_126 : decode cX6_count 126 = .ok (.getfield 100, 3) := by decide +kernel
theorem dX6_count_129 : decode cX6_count 129 = .ok (.iconst 1, 1) := by decide +kernel
theorem dX6_count_130 : decode cX6_count 130 = .ok (.invokevirtual 190, 3) := by decide +kernel
theorem dX6_count_133 : decode cX6_count 133 = .ok (.ireturn, 1) := by decide +kernel
theorem dX6_count_134 : decode cX6_count 134 = .ok (.aload_n 0, 1) := by decide +kernel
theorem dX6_count_135 : decode cX6_count 135 = .ok (.getfield 10, 3) := by decide +kernel
theorem dX6_count_138 : decode cX6_count 138 = .ok (.getfield 100, 3) := by decide +kernel
theorem dX6_count_141 : decode cX6_count 141 = .ok (.iconst 2, 1) := by decide +kernel
theorem dX6_count_142 : decode cX6_count 142 = .ok (.invokevirtual 190, 3) := by decide +kernel
theorem dX6_count_145 : decode cX6_count 145 = .ok (.ireturn, 1) := by decide +kernel
theorem dX6_count_146 : decode cX6_count 146 = .ok (.aload_n 0, 1) := by decide +kernel
theorem dX6_count_147 : decode cX6_count 147 = .ok (.getfield 10, 3) := by decide +kernel
theorem dX6_count_150 : decode cX6_count 150 = .ok (.getfield 100, 3) := by decide +kernel
theorem dX6_count_153 : decode cX6_count 153 = .ok (.iconst 3, 1) := by decide +kernel
theorem dX6_count_154 : decode cX6_count 154 = .ok (.invokevirtual 190, 3) := by decide +kernel
theorem dX6_count_157 : decode cX6_count 157 = .ok (.ireturn, 1) := by decide +kernel
theorem dX6_count_158 : decode cX6_count 158 = .ok (.aload_n 0, 1) := by decide +kernel
theorem dX6_count_159 : decode cX6_count 159 = .ok (.getfield 10, 3) := by decide +kernel
theorem dX6_count_162 : decode cX6_count 162 = .ok (.getfield 193, 3) := by decide +kernel
theorem dX6_count_165 : decode cX6_count 165 = .ok (.ireturn, 1) := by decide +kernel
theorem dX6_count_166 : decode cX6_count 166 = .ok (.aload_n 0, 1) := by decide +kernel
theorem dX6_count_167 : decode cX6_count 167 = .ok (.getfield 10, 3) := by decide +kernel
theorem dX6_count_170 : decode cX6_count 170 = .ok (.getfield 196, 3) := by decide +kernel
theorem dX6_count_173 : decode cX6_count 173 = .ok (.ireturn, 1) := by decide +kernel
theorem dX6_count_174 : decode cX6_count 174 = .ok (.aload_n 0, 1) := by decide +kernel
theorem dX6_count_175 : decode cX6_count 175 = .ok (.getfield 10, 3) := by decide +kernel
theorem dX6_count_178 : decode cX6_count 178 = .ok (.getfield 199, 3) := by decide +kernel
theorem dX6_count_181 : decode cX6_count 181 = .ok (.ireturn, 1) := by decide +kernel
theorem dX6_count_182 : decode cX6_count 182 = .ok (.aload_n 0, 1) := by decide +kernel
theorem dX6_count_183 : decode cX6_count 183 = .ok (.getfield 10, 3) := by decide +kernel
theorem dX6_count_186 : decode cX6_count 186 = .ok (.getfield 109, 3) := by decide +kernel
theorem dX6_count_189 : decode cX6_count 189 = .ok (.ireturn, 1) := by decide +kernel
theorem dX6_count_190 : decode cX6_count 190 = .ok (.aload_n 0, 1) := by decide +kernel
theorem dX6_count_191 : decode cX6_count 191 = .ok (.getfield 10, 3) := by decide +kernel
theorem dX6_count_194 : decode cX6_count 194 = .ok (.getfield 112, 3) := by decide +kernel
theorem dX6_count_197 : decode cX6_count 197 = .ok (.ireturn, 1) := by decide +kernel
theorem dX6_count_198 : decode cX6_count 198 = .ok (.aload_n 0, 1) := by decide +kernel
theorem dX6_count_199 : decode cX6_count 199 = .ok (.getfield 32, 3) := by decide +kernel
theorem dX6_count_202 : decode cX6_count 202 = .ok (.getfield 131, 3) := by decide +kernel
theorem dX6_count_205 : decode cX6_count 205 = .ok (.ireturn, 1) := by decide +kernel
theorem dX6_count_206 : decode cX6_count 206 = .ok (.aload_n 0, 1) := by decide +kernel
theorem dX6_count_207 : decode cX6_count 207 = .ok (.getfield 25, 3) := by decide +kernel
theorem dX6_count_210 : decode cX6_count 210 = .ok (.getfield 202, 3) := by decide +kernel
theorem dX6_count_213 : decode cX6_count 213 = .ok (.ireturn, 1) := by decide +kernel
theorem dX6_count_214 : decode cX6_count 214 = .ok (.iconst (-1), 1) := by decide +kernel
theorem dX6_count_215 : decode cX6_count 215 = .ok (.ireturn, 1) := by decide +kernel
theorem dX6_speed_0 : decode cX6_speed 0 = .ok (.aload_n 0, 1) := by decide +kernel
theorem dX6_speed_1 : decode cX6_speed 1 = .ok (.getfield 10, 3) := by decide +kernel
theorem dX6_speed_4 : decode cX6_speed 4 = .ok (.getfield 187, 3) := by decide +kernel
theorem dX6_speed_7 : decode cX6_speed 7 = .ok (.ifCond .ne 5, 3) := by decide +kernel
theorem dX6_speed_10 : decode cX6_speed 10 = .ok (.dconst 0, 1) := by decide +kernel
theorem dX6_speed_11 : decode cX6_speed 11 = .ok (.dreturn, 1) := by decide +kernel
theorem dX6_speed_12 : decode cX6_speed 12 = .ok (.aload_n 0, 1) := by decide +kernel
theorem dX6_speed_13 : decode cX6_speed 13 = .ok (.getfield 10, 3) := by decide +kernel
theorem dX6_speed_16 : decode cX6_speed 16 = .ok (.getfield 149, 3) := by decide +kernel
theorem dX6_speed_19 : decode cX6_speed 19 = .ok (.getfield 66, 3) := by decide +kernel
theorem dX6_speed_22 : decode cX6_speed 22 = .ok (.aload_n 0, 1) := by decide +kernel
theorem dX6_speed_23 : decode cX6_speed 23 = .ok (.getfield 10, 3) := by decide +kernel
theorem dX6_speed_26 : decode cX6_speed 26 = .ok (.getfield 161, 3) := by decide +kernel
theorem dX6_speed_29 : decode cX6_speed 29 = .ok (.getfield 66, 3) := by decide +kernel
theorem dX6_speed_32 : decode cX6_speed 32 = .ok (.iadd, 1) := by decide +kernel
theorem dX6_speed_33 : decode cX6_speed 33 = .ok (.i2d, 1) := by decide +kernel
theorem dX6_speed_34 : decode cX6_speed 34 = .ok (.aload_n 0, 1) := by decide +kernel
theorem dX6_speed_35 : decode cX6_speed 35 = .ok (.getfield 10, 3) := by decide +kernel
theorem dX6_speed_38 : decode cX6_speed 38 = .ok (.getfield 187, 3) := by decide +kernel
theorem dX6_speed_41 : decode cX6_speed 41 = .ok (.i2d, 1) := by decide +kernel
theorem dX6_speed_42 : decode cX6_speed 42 = .ok (.ddiv, 1) := by decide +kernel
theorem dX6_speed_43 : decode cX6_speed 43 = .ok (.dreturn, 1) := by decide +kernel
theorem dX6_ended_0 : decode cX6_ended 0 = .ok (.iload_n 1, 1) := by decide +kernel
theorem dX6_ended_1 : decode cX6_ended 1 = .ok (.ifCond .eq 8, 3) := by decide +kernel
theorem dX6_ended_4 : decode cX6_ended 4 = .ok (.iload_n 1, 1) := by decide +kernel
theorem dX6_ended_5 : decode cX6_ended 5 = .ok (.iconst 1, 1) := by decide +kernel
theorem dX6_ended_6 : decode cX6_ended 6 = .ok (.if_icmp .ne 12, 3) := by decide +kernel
theorem dX6_ended_9 : decode cX6_ended 9 = .ok (.iload_n 2, 1) := by decide +kernel
theorem dX6_ended_10 : decode cX6_ended 10 = .ok (.ifCond .eq 10, 3) := by decide +kernel
theorem dX6_ended_13 : decode cX6_ended 13 = .ok (.iload_n 2, 1) := by decide +kernel
theorem dX6_ended_14 : decode cX6_ended 14 = .ok (.iconst 1, 1) := by decide +kernel
theorem dX6_ended_15 : decode cX6_ended 15 = .ok (.if_icmp .eq 5, 3) := by decide +kernel
theorem dX6_ended_18 : decode cX6_ended 18 = .ok (.iconst (-1), 1) := by decide +kernel
theorem dX6_ended_19 : decode cX6_ended 19 = .ok (.ireturn, 1) := by decide +kernel
theorem dX6_ended_20 : decode cX6_ended 20 = .ok (.iload_n 3, 1) := by decide +kernel
theorem dX6_ended_21 : decode cX6_ended 21 = .ok (.ifCond .lt 8, 3) := by decide +kernel
theorem dX6_ended_24 : decode cX6_ended 24 = .ok (.iload_n 3, 1) := by decide +kernel
theorem dX6_ended_25 : decode cX6_ended 25 = .ok (.iconst 2, 1) := by decide +kernel
theorem dX6_ended_26 : decode cX6_ended 26 = .ok (.if_icmp .le 5, 3) := by decide +kernel
theorem dX6_ended_29 : decode cX6_ended 29 = .ok (.iconst (-1), 1) := by decide +kernel
theorem dX6_ended_30 : decode cX6_ended 30 = .ok (.ireturn, 1) := by decide +kernel
theorem dX6_ended_31 : decode cX6_ended 31 = .ok (.aload_n 0, 1) := by decide +kernel
theorem dX6_ended_32 : decode cX6_ended 32 = .ok (.getfield 16, 3) := by decide +kernel
theorem dX6_ended_35 : decode cX6_ended 35 = .ok (.aload_n 0, 1) := by decide +kernel
theorem dX6_ended_36 : decode cX6_ended 36 = .ok (.getfield 10, 3) := by decide +kernel
theorem dX6_ended_39 : decode cX6_ended 39 = .ok (.invokevirtual 205, 3) := by decide +kernel
theorem dX6_ended_42 : decode cX6_ended 42 = .ok (.aload_n 0, 1) := by decide +kernel
theorem dX6_ended_43 : decode cX6_ended 43 = .ok (.invokevirtual 81, 3) := by decide +kernel
theorem dX6_ended_46 : decode cX6_ended 46 = .ok (.astore 4, 2) := by decide +kernel
theorem dX6_ended_48 : decode cX6_ended 48 = .ok (.iconst 0, 1) := by decide +kernel
theorem dX6_ended_49 : decode cX6_ended 49 = .ok (.istore 5, 2) := by decide +kernel
theorem dX6_ended_51 : decode cX6_ended 51 = .ok (.iload 5, 2) := by decide +kernel
theorem dX6_ended_53 : decode cX6_ended 53 = .ok (.sipush 1000, 3) := by decide +kernel
theorem dX6_ended_56 : decode cX6_ended 56 = .ok (.if_icmp .ge 68, 3) := by decide +kernel
theorem dX6_ended_59 : decode cX6_ended 59 = .ok (.aload_n 0, 1) := by decide +kernel
theorem dX6_ended_60 : decode cX6_ended 60 = .ok (.getfield 16, 3) := by decide +kernel
theorem dX6_ended_63 : decode cX6_ended 63 = .ok (.invokevirtual 77, 3) := by decide +kernel
theorem dX6_ended_66 : decode cX6_ended 66 = .ok (.ifCond .ne 58, 3) := by decide +kernel
theorem dX6_ended_69 : decode cX6_ended 69 = .ok (.aload_n 0, 1) := by decide +kernel
theorem dX6_ended_70 : decode cX6_ended 70 = .ok (.getfield 16, 3) := by decide +kernel
theorem dX6_ended_73 : decode cX6_ended 73 = .ok (.getfield 181, 3) := by decide +kernel
theorem dX6_ended_76 : decode cX6_ended 76 = .ok (.ifCond .ne 7, 3) := by decide +kernel
theorem dX6_ended_79 : decode cX6_ended 79 = .ok (.iload_n 1, 1) := by decide +kernel
theorem dX6_ended_80 : decode cX6_ended 80 = .ok (.goto 4, 3) := by decide +kernel
theorem dX6_ended_83 : decode cX6_ended 83 = .ok (.iload_n 2, 1) := by decide +kernel
theorem dX6_ended_84 : decode cX6_ended 84 = .ok (.istore 6, 2) := by decide +kernel
theorem dX6_ended_86 : decode cX6_ended 86 = .ok (.aload_n 0, 1) := by decide +kernel
theorem dX6_ended_87 : decode cX6_ended 87 = .ok (.getfield 16, 3) := by decide +kernel
theorem dX6_ended_90 : decode cX6_ended 90 = .ok (.iload 6, 2) := by decide +kernel
theorem dX6_ended_92 : decode cX6_ended 92 = .ok (.iconst 1, 1) := by decide +kernel
theorem dX6_ended_93 : decode cX6_ended 93 = .ok (.if_icmp .ne 13, 3) := by decide +kernel
theorem dX6_ended_96 : decode cX6_ended 96 = .ok (.aload_n 0, 1) := by decide +kernel
theorem dX6_ended_97 : decode cX6_ended 97 = .ok (.getfield 16, 3) := by decide +kernel
theorem dX6_ended_100 : decode cX6_ended 100 = .ok (.invokevirtual 89, 3) := by decide +kernel
theorem dX6_ended_103 : decode cX6_ended 103 = .ok (.goto 12, 3) := by decide +kernel
theorem dX6_ended_106 : decode cX6_ended 106 = .ok (.aload 4, 2) := by decide +kernel
theorem dX6_ended_108 : decode cX6_ended 108 = .ok (.aload_n 0, 1) := by decide +kernel
theorem dX6_ended_109 : decode cX6_ended 109 = .ok (.getfield 16, 3) := by decide +kernel
theorem dX6_ended_112 : decode cX6_ended 112 = .ok (.invokevirtual 85, 3) := by decide +kernel
theorem dX6_ended_115 : decode cX6_ended 115 = .ok (.invokevirtual 140, 3) := by decide +kernel
theorem dX6_ended_118 : decode cX6_ended 118 = .ok (.iinc 5 1, 3) := by decide +kernel
theorem dX6_ended_121 : decode cX6_ended 121 = .ok (.goto (-70), 3) := by decide +kernel
theorem dX6_ended_124 : decode cX6_ended 124 = .ok (.iload_n 3, 1) := by decide +kernel
theorem dX6_ended_125 : decode cX6_ended 125 = .ok (.ifCond .ne 11, 3) := by decide +kernel
theorem dX6_ended_128 : decode cX6_ended 128 = .ok (.aload_n 0, 1) := by decide +kernel
theorem dX6_ended_129 : decode cX6_ended 129 = .ok (.getfield 16, 3) := by decide +kernel
theorem dX6_ended_132 : decode cX6_ended 132 = .ok (.getfield 184, 3) := by decide +kernel
theorem dX6_ended_135 : decode cX6_ended 135 = .ok (.ireturn, 1) := by decide +kernel
theorem dX6_ended_136 : decode cX6_ended 136 = .ok (.iload_n 3, 1) := by decide +kernel
theorem dX6_ended_137 : decode cX6_ended 137 = .ok (.iconst 1, 1) := by decide +kernel
theorem dX6_ended_138 : decode cX6_ended 138 = .ok (.if_icmp .ne 19, 3) := by decide +kernel
theorem dX6_ended_141 : decode cX6_ended 141 = .ok (.aload_n 0, 1) := by decide +kernel
theorem dX6_ended_142 : decode cX6_ended 142 = .ok (.getfield 16, 3) := by decide +kernel
theorem dX6_ended_145 : decode cX6_ended 145 = .ok (.getfield 187, 3) := by decide +kernel
theorem dX6_ended_148 : decode cX6_ended 148 = .ok (.aload_n 0, 1) := by decide +kernel
theorem dX6_ended_149 : decode cX6_ended 149 = .ok (.getfield 10, 3) := by decide +kernel
theorem dX6_ended_152 : decode cX6_ended 152 = .ok (.getfield 187, 3) := by decide +kernel
theorem dX6_ended_155 : decode cX6_ended 155 = .ok (.isub, 1) := by decide +kernel
theorem dX6_ended_156 : decode cX6_ended 156 = .ok (.ireturn, 1) := by decide +kernel
theorem dX6_ended_157 : decode cX6_ended 157 = .ok (.aload_n 0, 1) := by decide +kernel
theorem dX6_ended_158 : decode cX6_ended 158 = .ok (.getfield 16, 3) := by decide +kernel
theorem dX6_ended_161 : decode cX6_ended 161 = .ok (.getfield 184, 3) := by decide +kernel
theorem dX6_ended_164 : decode cX6_ended 164 = .ok (.ifCond .ne 16, 3) := by decide +kernel
theorem dX6_ended_167 : decode cX6_ended 167 = .ok (.aload_n 0, 1) := by decide +kernel
theorem dX6_ended_168 : decode cX6_ended 168 = .ok (.getfield 16, 3) := by decide +kernel
theorem dX6_ended_171 : decode cX6_ended 171 = .ok (.getfield 161, 3) := by decide +kernel
theorem dX6_ended_174 : decode cX6_ended 174 = .ok (.getfield 66, 3) := by decide +kernel
theorem dX6_ended_177 : decode cX6_ended 177 = .ok (.goto 13, 3) := by decide +kernel
theorem dX6_ended_180 : decode cX6_ended 180 = .ok (.aload_n 0, 1) := by decide +kernel
theorem dX6_ended_181 : decode cX6_ended 181 = .ok (.getfield 16, 3) := by decide +kernel
theorem dX6_ended_184 : decode cX6_ended 184 = .ok (.getfield 149, 3) := by decide +kernel
theorem dX6_ended_187 : decode cX6_ended 187 = .ok (.getfield 66, 3) := by decide +kernel
theorem dX6_ended_190 : decode cX6_ended 190 = .ok (.ireturn, 1) := by decide +kernel
theorem dX6_undo_0 : decode cX6_undo 0 = .ok (.aload_n 0, 1) := by decide +kernel
theorem dX6_undo_1 : decode cX6_undo 1 = .ok (.getfield 25, 3) := by decide +kernel
theorem dX6_undo_4 : decode cX6_undo 4 = .ok (.aload_n 0, 1) := by decide +kernel
theorem dX6_undo_5 : decode cX6_undo 5 = .ok (.getfield 10, 3) := by decide +kernel
theorem dX6_undo_8 : decode cX6_undo 8 = .ok (.invokevirtual 208, 3) := by decide +kernel
theorem dX6_undo_11 : decode cX6_undo 11 = .ok (.ifCond .eq 13, 3) := by decide +kernel
theorem dX6_undo_14 : decode cX6_undo 14 = .ok (.aload_n 0, 1) := by decide +kernel
theorem dX6_undo_15 : decode cX6_undo 15 = .ok (.getfield 25, 3) := by decide +kernel
theorem dX6_undo_18 : decode cX6_undo 18 = .ok (.getfield 202, 3) := by decide +kernel
theorem dX6_undo_21 : decode cX6_undo 21 = .ok (.goto 5, 3) := by decide +kernel
theorem dX6_undo_24 : decode cX6_undo 24 = .ok (.bipush (-2), 2) := by decide +kernel
theorem dX6_undo_26 : decode cX6_undo 26 = .ok (.ireturn, 1) := by decide +kernel
theorem dX6_save_0 : decode cX6_save 0 = .ok (.aload_n 0, 1) := by decide +kernel
theorem dX6_save_1 : decode cX6_save 1 = .ok (.getfield 19, 3) := by decide +kernel
theorem dX6_save_4 : decode cX6_save 4 = .ok (.aload_n 0, 1) := by decide +kernel
theorem dX6_save_5 : decode cX6_save 5 = .ok (.getfield 10, 3) := by decide +kernel
theorem dX6_save_8 : decode cX6_save 8 = .ok (.invokevirtual 205, 3) := by decide +kernel
theorem dX6_save_11 : decode cX6_save 11 = .ok (.aload_n 0, 1) := by decide +kernel
theorem dX6_save_12 : decode cX6_save 12 = .ok (.iconst 1, 1) := by decide +kernel
theorem dX6_save_13 : decode cX6_save 13 = .ok (.putfield 43, 3) := by decide +kernel
theorem dX6_save_16 : decode cX6_save 16 = .ok (.aload_n 0, 1) := by decide +kernel
theorem dX6_save_17 : decode cX6_save 17 = .ok (.getfield 10, 3) := by decide +kernel
theorem dX6_save_20 : decode cX6_save 20 = .ok (.getfield 187, 3) := by decide +kernel
theorem dX6_save_23 : decode cX6_save 23 = .ok (.ireturn, 1) := by decide +kernel
theorem dX6_restore_0 : decode cX6_restore 0 = .ok (.aload_n 0, 1) := by decide +kernel
theorem dX6_restore_1 : decode cX6_restore 1 = .ok (.getfield 43, 3) := by decide +kernel
theorem dX6_restore_4 : decode cX6_restore 4 = .ok (.ifCond .ne 6, 3) := by decide +kernel
theorem dX6_restore_7 : decode cX6_restore 7 = .ok (.bipush (-2), 2) := by decide +kernel
theorem dX6_restore_9 : decode cX6_restore 9 = .ok (.ireturn, 1) := by decide +kernel
theorem dX6_restore_10 : decode cX6_restore 10 = .ok (.aload_n 0, 1) := by decide +kernel
theorem dX6_restore_11 : decode cX6_restore 11 = .ok (.getfield 25, 3) := by decide +kernel
theorem dX6_restore_14 : decode cX6_restore 14 = .ok (.aload_n 0, 1) := by decide +kernel
theorem dX6_restore_15 : decode cX6_restore 15 = .ok (.getfield 10, 3) := by decide +kernel
theorem dX6_restore_18 : decode cX6_restore 18 = .ok (.invokevirtual 93, 3) := by decide +kernel
theorem dX6_restore_21 : decode cX6_restore 21 = .ok (.aload_n 0, 1) := by decide +kernel
theorem dX6_restore_22 : decode cX6_restore 22 = .ok (.getfield 10, 3) := by decide +kernel
theorem dX6_restore_25 : decode cX6_restore 25 = .ok (.aload_n 0, 1) := by decide +kernel
theorem dX6_restore_26 : decode cX6_restore 26 = .ok (.getfield 19, 3) := by decide +kernel
theorem dX6_restore_29 : decode cX6_restore 29 = .ok (.invokevirtual 205, 3) := by decide +kernel
theorem dX6_restore_32 : decode cX6_restore 32 = .ok (.aload_n 0, 1) := by decide +kernel
theorem dX6_restore_33 : decode cX6_restore 33 = .ok (.getfield 10, 3) := by decide +kernel
theorem dX6_restore_36 : decode cX6_restore 36 = .ok (.getfield 187, 3) := by decide +kernel
theorem dX6_restore_39 : decode cX6_restore 39 = .ok (.ireturn, 1) := by decide +kernel
theorem dX6_makeAsChange_0 : decode cX6_makeAsChange 0 = .ok (.aload_n 0, 1) := by decide +kernel
theorem dX6_makeAsChange_1 : decode cX6_makeAsChange 1 = .ok (.getfield 25, 3) := by decide +kernel
theorem dX6_makeAsChange_4 : decode cX6_makeAsChange 4 = .ok (.aload_n 0, 1) := by decide +kernel
theorem dX6_makeAsChange_5 : decode cX6_makeAsChange 5 = .ok (.getfield 10, 3) := by decide +kernel
theorem dX6_makeAsChange_8 : decode cX6_makeAsChange 8 = .ok (.invokevirtual 93, 3) := by decide +kernel
theorem dX6_makeAsChange_11 : decode cX6_makeAsChange 11 = .ok (.aload_n 0, 1) := by decide +kernel
theorem dX6_makeAsChange_12 : decode cX6_makeAsChange 12 = .ok (.getfield 10, 3) := by decide +kernel
theorem dX6_makeAsChange_15 : decode cX6_makeAsChange 15 = .ok (.iload_n 1, 1) := by decide +kernel
theorem dX6_makeAsChange_16 : decode cX6_makeAsChange 16 = .ok (.invokevirtual 140, 3) := by decide +kernel
theorem dX6_makeAsChange_19 : decode cX6_makeAsChange 19 = .ok (.return_, 1) := by decide +kernel
theorem dX6_preparedWorths_0 : decode cX6_preparedWorths 0 = .ok (.aload_n 0, 1) := by decide +kernel
theorem dX6_preparedWorths_1 : decode cX6_preparedWorths 1 = .ok (.getfield 39, 3) := by decide +kernel
theorem dX6_preparedWorths_4 : decode cX6_preparedWorths 4 = .ok (.aload_n 0, 1) := by decide +kernel
theorem dX6_preparedWorths_5 : decode cX6_preparedWorths 5 = .ok (.getfield 10, 3) := by decide +kernel
theorem dX6_preparedWorths_8 : decode cX6_preparedWorths 8 = .ok (.invokevirtual 212, 3) := by decide +kernel
theorem dX6_preparedWorths_11 : decode cX6_preparedWorths 11 = .ok (.aload_n 0, 1) := by decide +kernel
theorem dX6_preparedWorths_12 : decode cX6_preparedWorths 12 = .ok (.getfield 39, 3) := by decide +kernel
theorem dX6_preparedWorths_15 : decode cX6_preparedWorths 15 = .ok (.areturn, 1) := by decide +kernel
theorem dX6_turnMeant_0 : decode cX6_turnMeant 0 = .ok (.iload_n 1, 1) := by decide +kernel
theorem dX6_turnMeant_1 : decode cX6_turnMeant 1 = .ok (.bipush 49, 2) := by decide +kernel
theorem dX6_turnMeant_3 : decode cX6_turnMeant 3 = .ok (.if_icmp .lt 14, 3) := by decide +kernel
theorem dX6_turnMeant_6 : decode cX6_turnMeant 6 = .ok (.iload_n 1, 1) := by decide +kernel
theorem dX6_turnMeant_7 : decode cX6_turnMeant 7 = .ok (.bipush 52, 2) := by decide +kernel
theorem dX6_turnMeant_9 : decode cX6_turnMeant 9 = .ok (.if_icmp .gt 8, 3) := by decide +kernel
theorem dX6_turnMeant_12 : decode cX6_turnMeant 12 = .ok (.iload_n 1, 1) := by decide +kernel
theorem dX6_turnMeant_13 : decode cX6_turnMeant 13 = .ok (.bipush 48, 2) := by decide +kernel
theorem dX6_turnMeant_15 : decode cX6_turnMeant 15 = .ok (.isub, 1) := by decide +kernel
theorem dX6_turnMeant_16 : decode cX6_turnMeant 16 = .ok (.ireturn, 1) := by decide +kernel
theorem dX6_turnMeant_17 : decode cX6_turnMeant 17 = .ok (.iload_n 1, 1) := by decide +kernel
theorem dX6_turnMeant_18 : decode cX6_turnMeant 18 = .ok (.bipush 116, 2) := by decide +kernel
theorem dX6_turnMeant_20 : decode cX6_turnMeant 20 = .ok (.if_icmp .ne 5, 3) := by decide +kernel
theorem dX6_turnMeant_23 : decode cX6_turnMeant 23 = .ok (.iconst 5, 1) := by decide +kernel
theorem dX6_turnMeant_24 : decode cX6_turnMeant 24 = .ok (.ireturn, 1) := by decide +kernel
theorem dX6_turnMeant_25 : decode cX6_turnMeant 25 = .ok (.iload_n 1, 1) := by decide +kernel
theorem dX6_turnMeant_26 : decode cX6_turnMeant 26 = .ok (.bipush 45, 2) := by decide +kernel
theorem dX6_turnMeant_28 : decode cX6_turnMeant 28 = .ok (.if_icmp .eq 13, 3) := by decide +kernel
theorem dX6_turnMeant_31 : decode cX6_turnMeant 31 = .ok (.aload_n 0, 1) := by decide +kernel
theorem dX6_turnMeant_32 : decode cX6_turnMeant 32 = .ok (.getfield 10, 3) := by decide +kernel
theorem dX6_turnMeant_35 : decode cX6_turnMeant 35 = .ok (.invokevirtual 77, 3) := by decide +kernel
theorem dX6_turnMeant_38 : decode cX6_turnMeant 38 = .ok (.ifCond .eq 5, 3) := by decide +kernel
theorem dX6_turnMeant_41 : decode cX6_turnMeant 41 = .ok (.iconst 0, 1) := by decide +kernel
theorem dX6_turnMeant_42 : decode cX6_turnMeant 42 = .ok (.ireturn, 1) := by decide +kernel
theorem dX6_turnMeant_43 : decode cX6_turnMeant 43 = .ok (.iload_n 1, 1) := by decide +kernel
theorem dX6_turnMeant_44 : decode cX6_turnMeant 44 = .ok (.bipush 103, 2) := by decide +kernel
theorem dX6_turnMeant_46 : decode cX6_turnMeant 46 = .ok (.if_icmp .ne 13, 3) := by decide +kernel
theorem dX6_turnMeant_49 : decode cX6_turnMeant 49 = .ok (.aload_n 0, 1) := by decide +kernel
theorem dX6_turnMeant_50 : decode cX6_turnMeant 50 = .ok (.getfield 10, 3) := by decide +kernel
theorem dX6_turnMeant_53 : decode cX6_turnMeant 53 = .ok (.invokevirtual 89, 3) := by decide +kernel
theorem dX6_turnMeant_56 : decode cX6_turnMeant 56 = .ok (.goto 14, 3) := by decide +kernel
theorem dX6_turnMeant_59 : decode cX6_turnMeant 59 = .ok (.aload_n 0, 1) := by decide +kernel
theorem dX6_turnMeant_60 : decode cX6_turnMeant 60 = .ok (.invokevirtual 81, 3) := by decide +kernel
theorem dX6_turnMeant_63 : decode cX6_turnMeant 63 = .ok (.aload_n 0, 1) := by decide +kernel
theorem dX6_turnMeant_64 : decode cX6_turnMeant 64 = .ok (.getfield 10, 3) := by decide +kernel
theorem dX6_turnMeant_67 : decode cX6_turnMeant 67 = .ok (.invokevirtual 85, 3) := by decide +kernel
theorem dX6_turnMeant_70 : decode cX6_turnMeant 70 = .ok (.ireturn, 1) := by decide +kernel
theorem dX6_at_0 : decode cX6_at 0 = .ok (.iload_n 1, 1) := by decide +kernel
theorem dX6_at_1 : decode cX6_at 1 = .ok (.ifCond .lt 15, 3) := by decide +kernel
theorem dX6_at_4 : decode cX6_at 4 = .ok (.iload_n 1, 1) := by decide +kernel
theorem dX6_at_5 : decode cX6_at 5 = .ok (.aload_n 0, 1) := by decide +kernel
theorem dX6_at_6 : decode cX6_at 6 = .ok (.arraylength, 1) := by decide +kernel
theorem dX6_at_7 : decode cX6_at 7 = .ok (.if_icmp .ge 9, 3) := by decide +kernel
theorem dX6_at_10 : decode cX6_at 10 = .ok (.aload_n 0, 1) := by decide +kernel
theorem dX6_at_11 : decode cX6_at 11 = .ok (.iload_n 1, 1) := by decide +kernel
theorem dX6_at_12 : decode cX6_at 12 = .ok (.iaload, 1) := by decide +kernel
theorem dX6_at_13 : decode cX6_at 13 = .ok (.goto 4, 3) := by decide +kernel
theorem dX6_at_16 : decode cX6_at 16 = .ok (.iconst 0, 1) := by decide +kernel
theorem dX6_at_17 : decode cX6_at 17 = .ok (.ireturn, 1) := by decide +kernel
theorem dX6_put_0 : decode cX6_put 0 = .ok (.iload_n 1, 1) := by decide +kernel
theorem dX6_put_1 : decode cX6_put 1 = .ok (.ifCond .lt 13, 3) := by decide +kernel
theorem dX6_put_4 : decode cX6_put 4 = .ok (.iload_n 1, 1) := by decide +kernel
theorem dX6_put_5 : decode cX6_put 5 = .ok (.aload_n 0, 1) := by decide +kernel
theorem dX6_put_6 : decode cX6_put 6 = .ok (.arraylength, 1) := by decide +kernel
theorem dX6_put_7 : decode cX6_put 7 = .ok (.if_icmp .ge 7, 3) := by decide +kernel
theorem dX6_put_10 : decode cX6_put 10 = .ok (.aload_n 0, 1) := by decide +kernel
theorem dX6_put_11 : decode cX6_put 11 = .ok (.iload_n 1, 1) := by decide +kernel
theorem dX6_put_12 : decode cX6_put 12 = .ok (.iload_n 2, 1) := by decide +kernel
theorem dX6_put_13 : decode cX6_put 13 = .ok (.iastore, 1) := by decide +kernel
theorem dX6_put_14 : decode cX6_put 14 = .ok (.return_, 1) := by decide +kernel
theorem dX6_copyRow_0 : decode cX6_copyRow 0 = .ok (.iconst 0, 1) := by decide +kernel
theorem dX6_copyRow_1 : decode cX6_copyRow 1 = .ok (.istore_n 2, 1) := by decide +kernel
theorem dX6_copyRow_2 : decode cX6_copyRow 2 = .ok (.iload_n 2, 1) := by decide +kernel
theorem dX6_copyRow_3 : decode cX6_copyRow 3 = .ok (.aload_n 0, 1) := by decide +kernel
theorem dX6_copyRow_4 : decode cX6_copyRow 4 = .ok (.arraylength, 1) := by decide +kernel
theorem dX6_copyRow_5 : decode cX6_copyRow 5 = .ok (.if_icmp .ge 21, 3) := by decide +kernel
theorem dX6_copyRow_8 : decode cX6_copyRow 8 = .ok (.iload_n 2, 1) := by decide +kernel
theorem dX6_copyRow_9 : decode cX6_copyRow 9 = .ok (.aload_n 1, 1) := by decide +kernel
theorem dX6_copyRow_10 : decode cX6_copyRow 10 = .ok (.arraylength, 1) := by decide +kernel
theorem dX6_copyRow_11 : decode cX6_copyRow 11 = .ok (.if_icmp .ge 15, 3) := by decide +kernel
theorem dX6_copyRow_14 : decode cX6_copyRow 14 = .ok (.aload_n 1, 1) := by decide +kernel
theorem dX6_copyRow_15 : decode cX6_copyRow 15 = .ok (.iload_n 2, 1) := by decide +kernel
theorem dX6_copyRow_16 : decode cX6_copyRow 16 = .ok (.aload_n 0, 1) := by decide +kernel
theorem dX6_copyRow_17 : decode cX6_copyRow 17 = .ok (.iload_n 2, 1) := by decide +kernel
theorem dX6_copyRow_18 : decode cX6_copyRow 18 = .ok (.iaload, 1) := by decide +kernel
theorem dX6_copyRow_19 : decode cX6_copyRow 19 = .ok (.iastore, 1) := by decide +kernel
theorem dX6_copyRow_20 : decode cX6_copyRow 20 = .ok (.iinc 2 1, 3) := by decide +kernel
theorem dX6_copyRow_23 : decode cX6_copyRow 23 = .ok (.goto (-21), 3) := by decide +kernel
theorem dX6_copyRow_26 : decode cX6_copyRow 26 = .ok (.return_, 1) := by decide +kernel
theorem dX6_fillRow_0 : decode cX6_fillRow 0 = .ok (.iconst 0, 1) := by decide +kernel
theorem dX6_fillRow_1 : decode cX6_fillRow 1 = .ok (.istore_n 2, 1) := by decide +kernel
theorem dX6_fillRow_2 : decode cX6_fillRow 2 = .ok (.iload_n 2, 1) := by decide +kernel
theorem dX6_fillRow_3 : decode cX6_fillRow 3 = .ok (.aload_n 0, 1) := by decide +kernel
theorem dX6_fillRow_4 : decode cX6_fillRow 4 = .ok (.arraylength, 1) := by decide +kernel
theorem dX6_fillRow_5 : decode cX6_fillRow 5 = .ok (.if_icmp .ge 13, 3) := by decide +kernel
theorem dX6_fillRow_8 : decode cX6_fillRow 8 = .ok (.aload_n 0, 1) := by decide +kernel
theorem dX6_fillRow_9 : decode cX6_fillRow 9 = .ok (.iload_n 2, 1) := by decide +kernel
theorem dX6_fillRow_10 : decode cX6_fillRow 10 = .ok (.iload_n 1, 1) := by decide +kernel
theorem dX6_fillRow_11 : decode cX6_fillRow 11 = .ok (.iastore, 1) := by decide +kernel
theorem dX6_fillRow_12 : decode cX6_fillRow 12 = .ok (.iinc 2 1, 3) := by decide +kernel
theorem dX6_fillRow_15 : decode cX6_fillRow 15 = .ok (.goto (-13), 3) := by decide +kernel
theorem dX6_fillRow_18 : decode cX6_fillRow 18 = .ok (.return_, 1) := by decide +kernel
theorem dX7_init_0 : decode cX7_init 0 = .ok (.aload_n 0, 1) := by decide +kernel
theorem dX7_init_1 : decode cX7_init 1 = .ok (.invokespecial 1, 3) := by decide +kernel
theorem dX7_init_4 : decode cX7_init 4 = .ok (.aload_n 0, 1) := by decide +kernel
theorem dX7_init_5 : decode cX7_init 5 = .ok (.bipush 72, 2) := by decide +kernel
theorem dX7_init_7 : decode cX7_init 7 = .ok (.newarray .int, 2) := by decide +kernel
theorem dX7_init_9 : decode cX7_init 9 = .ok (.putfield 7, 3) := by decide +kernel
theorem dX7_init_12 : decode cX7_init 12 = .ok (.aload_n 0, 1) := by decide +kernel
theorem dX7_init_13 : decode cX7_init 13 = .ok (.bipush 72, 2) := by decide +kernel
theorem dX7_init_15 : decode cX7_init 15 = .ok (.newarray .int, 2) := by decide +kernel
theorem dX7_init_17 : decode cX7_init 17 = .ok (.putfield 13, 3) := by decide +kernel
theorem dX7_init_20 : decode cX7_init 20 = .ok (.aload_n 0, 1) := by decide +kernel
theorem dX7_init_21 : decode cX7_init 21 = .ok (.sipush 288, 3) := by decide +kernel
theorem dX7_init_24 : decode cX7_init 24 = .ok (.newarray .int, 2) := by decide +kernel
theorem dX7_init_26 : decode cX7_init 26 = .ok (.putfield 16, 3) := by decide +kernel
theorem dX7_init_29 : decode cX7_init 29 = .ok (.aload_n 0, 1) := by decide +kernel
theorem dX7_init_30 : decode cX7_init 30 = .ok (.bipush 72, 2) := by decide +kernel
theorem dX7_init_32 : decode cX7_init 32 = .ok (.newarray .int, 2) := by decide +kernel
theorem dX7_init_34 : decode cX7_init 34 = .ok (.putfield 19, 3) := by decide +kernel
theorem dX7_init_37 : decode cX7_init 37 = .ok (.aload_n 0, 1) := by decide +kernel
theorem dX7_init_38 : decode cX7_init 38 = .ok (.bipush 60, 2) := by decide +kernel
theorem dX7_init_40 : decode cX7_init 40 = .ok (.newarray .int, 2) := by decide +kernel
theorem dX7_init_42 : decode cX7_init 42 = .ok (.putfield 22, 3) := by decide +kernel
theorem dX7_init_45 : decode cX7_init 45 = .ok (.aload_n 0, 1) := by decide +kernel
theorem dX7_init_46 : decode cX7_init 46 = .ok (.ldc 25, 2) := by decide +kernel
theorem dX7_init_48 : decode cX7_init 48 = .ok (.newarray .int, 2) := by decide +kernel
theorem dX7_init_50 : decode cX7_init 50 = .ok (.putfield 26, 3) := by decide +kernel
theorem dX7_init_53 : decode cX7_init 53 = .ok (.aload_n 0, 1) := by decide +kernel
theorem dX7_init_54 : decode cX7_init 54 = .ok (.iconst 0, 1) := by decide +kernel
theorem dX7_init_55 : decode cX7_init 55 = .ok (.putfield 29, 3) := by decide +kernel
theorem dX7_init_58 : decode cX7_init 58 = .ok (.aload_n 0, 1) := by decide +kernel
theorem dX7_init_59 : decode cX7_init 59 = .ok (.getfield 7, 3) := by decide +kernel
theorem dX7_init_62 : decode cX7_init 62 = .ok (.iconst 0, 1) := by decide +kernel
theorem dX7_init_63 : decode cX7_init 63 = .ok (.iconst 3, 1) := by decide +kernel
theorem dX7_init_64 : decode cX7_init 64 = .ok (.iastore, 1) := by decide +kernel
theorem dX7_init_65 : decode cX7_init 65 = .ok (.aload_n 0, 1) := by decide +kernel
theorem dX7_init_66 : decode cX7_init 66 = .ok (.getfield 7, 3) := by decide +kernel
theorem dX7_init_69 : decode cX7_init 69 = .ok (.iconst 1, 1) := by decide +kernel
theorem dX7_init_70 : decode cX7_init 70 = .ok (.iconst 1, 1) := by decide +kernel
theorem dX7_init_71 : decode cX7_init 71 = .ok (.iastore, 1) := by decide +kernel
theorem dX7_init_72 : decode cX7_init 72 = .ok (.aload_n 0, 1) := by decide +kernel
theorem dX7_init_73 : decode cX7_init 73 = .ok (.getfield 7, 3) := by decide +kernel
theorem dX7_init_76 : decode cX7_init 76 = .ok (.iconst 2, 1) := by decide +kernel
theorem dX7_init_77 : decode cX7_init 77 = .ok (.bipush 10, 2) := by decide +kernel
theorem dX7_init_79 : decode cX7_init 79 = .ok (.iastore, 1) := by decide +kernel
theorem dX7_init_80 : decode cX7_init 80 = .ok (.aload_n 0, 1) := by decide +kernel
theorem dX7_init_81 : decode cX7_init 81 = .ok (.bipush (-4), 2) := by decide +kernel
theorem dX7_init_83 : decode cX7_init 83 = .ok (.putfield 33, 3) := by decide +kernel
theorem dX7_init_86 : decode cX7_init 86 = .ok (.aload_n 0, 1) := by decide +kernel
theorem dX7_init_87 : decode cX7_init 87 = .ok (.bipush (-4), 2) := by decide +kernel
theorem dX7_init_89 : decode cX7_init 89 = .ok (.putfield 36, 3) := by decide +kernel
theorem dX7_init_92 : decode cX7_init 92 = .ok (.aload_n 0, 1) := by decide +kernel
theorem dX7_init_93 : decode cX7_init 93 = .ok (.invokevirtual 39, 3) := by decide +kernel
theorem dX7_init_96 : decode cX7_init 96 = .ok (.return_, 1) := by decide +kernel
theorem dX7_in_0 : decode cX7_in 0 = .ok (.iload_n 0, 1) := by decide +kernel
theorem dX7_in_1 : decode cX7_in 1 = .ok (.iload_n 1, 1) := by decide +kernel
theorem dX7_in_2 : decode cX7_in 2 = .ok (.if_icmp .lt 12, 3) := by decide +kernel
theorem dX7_in_5 : decode cX7_in 5 = .ok (.iload_n 0, 1) := by decide +kernel
theorem dX7_in_6 : decode cX7_in 6 = .ok (.iload_n 2, 1) := by decide +kernel
theorem dX7_in_7 : decode cX7_in 7 = .ok (.if_icmp .gt 7, 3) := by decide +kernel
theorem dX7_in_10 : decode cX7_in 10 = .ok (.iconst 1, 1) := by decide +kernel
theorem dX7_in_11 : decode cX7_in 11 = .ok (.goto 4, 3) := by decide +kernel
theorem dX7_in_14 : decode cX7_in 14 = .ok (.iconst 0, 1) := by decide +kernel
theorem dX7_in_15 : decode cX7_in 15 = .ok (.ireturn, 1) := by decide +kernel
theorem dX7_of_0 : decode cX7_of 0 = .ok (.aload_n 0, 1) := by decide +kernel
theorem dX7_of_1 : decode cX7_of 1 = .ok (.getfield 7, 3) := by decide +kernel
theorem dX7_of_4 : decode cX7_of 4 = .ok (.bipush 23, 2) := by decide +kernel
theorem dX7_of_6 : decode cX7_of 6 = .ok (.bipush 8, 2) := by decide +kernel
theorem dX7_of_8 : decode cX7_of 8 = .ok (.iload_n 1, 1) := by decide +kernel
theorem dX7_of_9 : decode cX7_of 9 = .ok (.imul, 1) := by decide +kernel
theorem dX7_of_10 : decode cX7_of 10 = .ok (.iadd, 1) := by decide +kernel
theorem dX7_of_11 : decode cX7_of 11 = .ok (.iload_n 2, 1) := by decide +kernel
theorem dX7_of_12 : decode cX7_of 12 = .ok (.iadd, 1) := by decide +kernel
theorem dX7_of_13 : decode cX7_of 13 = .ok (.iaload, 1) := by decide +kernel
theorem dX7_of_14 : decode cX7_of 14 = .ok (.ireturn, 1) := by decide +kernel
theorem dX7_lay_0 : decode cX7_lay 0 = .ok (.aload_n 0, 1) := by decide +kernel
theorem dX7_lay_1 : decode cX7_lay 1 = .ok (.getfield 7, 3) := by decide +kernel
theorem dX7_lay_4 : decode cX7_lay 4 = .ok (.bipush 23, 2) := by decide +kernel
theorem dX7_lay_6 : decode cX7_lay 6 = .ok (.bipush 8, 2) := by decide +kernel
theorem dX7_lay_8 : decode cX7_lay 8 = .ok (.iload_n 1, 1) := by decide +kernel
theorem dX7_lay_9 : decode cX7_lay 9 = .ok (.imul, 1) := by decide +kernel
theorem dX7_lay_10 : decode cX7_lay 10 = .ok (.iadd, 1) := by decide +kernel
theorem dX7_lay_11 : decode cX7_lay 11 = .ok (.iload_n 2, 1) := by decide +kernel
theorem dX7_lay_12 : decode cX7_lay 12 = .ok (.iadd, 1) := by decide +kernel
theorem dX7_lay_13 : decode cX7_lay 13 = .ok (.iload_n 3, 1) := by decide +kernel
theorem dX7_lay_14 : decode cX7_lay 14 = .ok (.iastore, 1) := by decide +kernel
theorem dX7_lay_15 : decode cX7_lay 15 = .ok (.return_, 1) := by decide +kernel
theorem dX7_end_0 : decode cX7_end 0 = .ok (.aload_n 0, 1) := by decide +kernel
theorem dX7_end_1 : decode cX7_end 1 = .ok (.getfield 7, 3) := by decide +kernel
theorem dX7_end_4 : decode cX7_end 4 = .ok (.iconst 2, 1) := by decide +kernel
theorem dX7_end_5 : decode cX7_end 5 = .ok (.iaload, 1) := by decide +kernel
theorem dX7_end_6 : decode cX7_end 6 = .ok (.iconst 1, 1) := by decide +kernel
theorem dX7_end_7 : decode cX7_end 7 = .ok (.iadd, 1) := by decide +kernel
theorem dX7_end_8 : decode cX7_end 8 = .ok (.ireturn, 1) := by decide +kernel
theorem dX7_isOver_0 : decode cX7_isOver 0 = .ok (.aload_n 0, 1) := by decide +kernel
theorem dX7_isOver_1 : decode cX7_isOver 1 = .ok (.getfield 7, 3) := by decide +kernel
theorem dX7_isOver_4 : decode cX7_isOver 4 = .ok (.bipush 22, 2) := by decide +kernel
theorem dX7_isOver_6 : decode cX7_isOver 6 = .ok (.iaload, 1) := by decide +kernel
theorem dX7_isOver_7 : decode cX7_isOver 7 = .ok (.bipush (-4), 2) := by decide +kernel
theorem dX7_isOver_9 : decode cX7_isOver 9 = .ok (.if_icmp .eq 7, 3) := by decide +kernel
theorem dX7_isOver_12 : decode cX7_isOver 12 = .ok (.iconst 1, 1) := by decide +kernel
theorem dX7_isOver_13 : decode cX7_isOver 13 = .ok (.goto 4, 3) := by decide +kernel
theorem dX7_isOver_16 : decode cX7_isOver 16 = .ok (.iconst 0, 1) := by decide +kernel
theorem dX7_isOver_17 : decode cX7_isOver 17 = .ok (.ireturn, 1) := by decide +kernel
theorem dX7_begins_0 : decode cX7_begins 0 = .ok (.bipush 23, 2) := by decide +kernel
theorem dX7_begins_2 : decode cX7_begins 2 = .ok (.istore_n 1, 1) := by decide +kernel
theorem dX7_begins_3 : decode cX7_begins 3 = .ok (.iload_n 1, 1) := by decide +kernel
theorem dX7_begins_4 : decode cX7_begins 4 = .ok (.bipush 72, 2) := by decide +kernel
theorem dX7_begins_6 : decode cX7_begins 6 = .ok (.if_icmp .ge 16, 3) := by decide +kernel
theorem dX7_begins_9 : decode cX7_begins 9 = .ok (.aload_n 0, 1) := by decide +kernel
theorem dX7_begins_10 : decode cX7_begins 10 = .ok (.getfield 7, 3) := by decide +kernel
theorem dX7_begins_13 : decode cX7_begins 13 = .ok (.iload_n 1, 1) := by decide +kernel
theorem dX7_begins_14 : decode cX7_begins 14 = .ok (.iconst 0, 1) := by decide +kernel
theorem dX7_begins_15 : decode cX7_begins 15 = .ok (.iastore, 1) := by decide +kernel
theorem dX7_begins_16 : decode cX7_begins 16 = .ok (.iinc 1 1, 3) := by decide +kernel
theorem dX7_begins_19 : decode cX7_begins 19 = .ok (.goto (-16), 3) := by decide +kernel
theorem dX7_begins_22 : decode cX7_begins 22 = .ok (.aload_n 0, 1) := by decide +kernel
theorem dX7_begins_23 : decode cX7_begins 23 = .ok (.iconst 0, 1) := by decide +kernel
theorem dX7_begins_24 : decode cX7_begins 24 = .ok (.iconst 1, 1) := by decide +kernel
theorem dX7_begins_25 : decode cX7_begins 25 = .ok (.iconst 1, 1) := by decide +kernel
theorem dX7_begins_26 : decode cX7_begins 26 = .ok (.invokevirtual 42, 3) := by decide +kernel
theorem dX7_begins_29 : decode cX7_begins 29 = .ok (.aload_n 0, 1) := by decide +kernel
theorem dX7_begins_30 : decode cX7_begins 30 = .ok (.iconst 1, 1) := by decide +kernel
theorem dX7_begins_31 : decode cX7_begins 31 = .ok (.iconst 1, 1) := by decide +kernel
theorem dX7_begins_32 : decode cX7_begins 32 = .ok (.iconst 1, 1) := by decide +kernel
theorem dX7_begins_33 : decode cX7_begins 33 = .ok (.invokevirtual 42, 3) := by decide +kernel
theorem dX7_begins_36 : decode cX7_begins 36 = .ok (.aload_n 0, 1) := by decide +kernel
theorem dX7_begins_37 : decode cX7_begins 37 = .ok (.getfield 7, 3) := by decide +kernel
theorem dX7_begins_40 : decode cX7_begins 40 = .ok (.bipush 17, 2) := by decide +kernel
theorem dX7_begins_42 : decode cX7_begins 42 = .ok (.iconst 0, 1) := by decide +kernel
theorem dX7_begins_43 : decode cX7_begins 43 = .ok (.iastore, 1) := by decide +kernel
theorem dX7_begins_44 : decode cX7_begins 44 = .ok (.aload_n 0, 1) := by decide +kernel
theorem dX7_begins_45 : decode cX7_begins 45 = .ok (.getfield 7, 3) := by decide +kernel
theorem dX7_begins_48 : decode cX7_begins 48 = .ok (.bipush 18, 2) := by decide +kernel
theorem dX7_begins_50 : decode cX7_begins 50 = .ok (.iconst 0, 1) := by decide +kernel
theorem dX7_begins_51 : decode cX7_begins 51 = .ok (.iastore, 1) := by decide +kernel
theorem dX7_begins_52 : decode cX7_begins 52 = .ok (.aload_n 0, 1) := by decide +kernel
theorem dX7_begins_53 : decode cX7_begins 53 = .ok (.getfield 7, 3) := by decide +kernel
theorem dX7_begins_56 : decode cX7_begins 56 = .ok (.bipush 22, 2) := by decide +kernel
theorem dX7_begins_58 : decode cX7_begins 58 = .ok (.bipush (-4), 2) := by decide +kernel
theorem dX7_begins_60 : decode cX7_begins 60 = .ok (.iastore, 1) := by decide +kernel
theorem dX7_begins_61 : decode cX7_begins 61 = .ok (.aload_n 0, 1) := by decide +kernel
theorem dX7_begins_62 : decode cX7_begins 62 = .ok (.getfield 7, 3) := by decide +kernel
theorem dX7_begins_65 : decode cX7_begins 65 = .ok (.bipush 19, 2) := by decide +kernel
theorem dX7_begins_67 : decode cX7_begins 67 = .ok (.dup2, 1) := by decide +kernel
theorem dX7_begins_68 : decode cX7_begins 68 = .ok (.iaload, 1) := by decide +kernel
theorem dX7_begins_69 : decode cX7_begins 69 = .ok (.iconst 1, 1) := by decide +kernel
theorem dX7_begins_70 : decode cX7_begins 70 = .ok (.iadd, 1) := by decide +kernel
theorem dX7_begins_71 : decode cX7_begins 71 = .ok (.iastore, 1) := by decide +kernel
theorem dX7_begins_72 : decode cX7_begins 72 = .ok (.return_, 1) := by decide +kernel
theorem dX7_records_0 : decode cX7_records 0 = .ok (.aload_n 0, 1) := by decide +kernel
theorem dX7_records_1 : decode cX7_records 1 = .ok (.getfield 46, 3) := by decide +kernel
theorem dX7_records_4 : decode cX7_records 4 = .ok (.iconst 4, 1) := by decide +kernel
theorem dX7_records_5 : decode cX7_records 5 = .ok (.if_icmp .ne 43, 3) := by decide +kernel
theorem dX7_records_8 : decode cX7_records 8 = .ok (.iconst 0, 1) := by decide +kernel
theorem dX7_records_9 : decode cX7_records 9 = .ok (.istore_n 1, 1) := by decide +kernel
theorem dX7_records_10 : decode cX7_records 10 = .ok (.iload_n 1, 1) := by decide +kernel
theorem dX7_records_11 : decode cX7_records 11 = .ok (.sipush 216, 3) := by decide +kernel
theorem dX7_records_14 : decode cX7_records 14 = .ok (.if_icmp .ge 24, 3) := by decide +kernel
theorem dX7_records_17 : decode cX7_records 17 = .ok (.aload_n 0, 1) := by decide +kernel
theorem dX7_records_18 : decode cX7_records 18 = .ok (.getfield 16, 3) := by decide +kernel
theorem dX7_records_21 : decode cX7_records 21 = .ok (.iload_n 1, 1) := by decide +kernel
theorem dX7_records_22 : decode cX7_records 22 = .ok (.aload_n 0, 1) := by decide +kernel
theorem dX7_records_23 : decode cX7_records 23 = .ok (.getfield 16, 3) := by decide +kernel
theorem dX7_records_26 : decode cX7_records 26 = .ok (.iload_n 1, 1) := by decide +kernel
theorem dX7_records_27 : decode cX7_records 27 = .ok (.bipush 72, 2) := by decide +kernel
theorem dX7_records_29 : decode cX7_records 29 = .ok (.iadd, 1) := by decide +kernel
theorem dX7_records_30 : decode cX7_records 30 = .ok (.iaload, 1) := by decide +kernel
theorem dX7_records_31 : decode cX7_records 31 = .ok (.iastore, 1) := by decide +kernel
theorem dX7_records_32 : decode cX7_records 32 = .ok (.iinc 1 1, 3) := by decide +kernel
theorem dX7_records_35 : decode cX7_records 35 = .ok (.goto (-25), 3) := by decide +kernel
theorem dX7_records_38 : decode cX7_records 38 = .ok (.aload_n 0, 1) := by decide +kernel
theorem dX7_records_39 : decode cX7_records 39 = .ok (.dup, 1) := by decide +kernel
theorem dX7_records_40 : decode cX7_records 40 = .ok (.getfield 46, 3) := by decide +kernel
theorem dX7_records_43 : decode cX7_records 43 = .ok (.iconst 1, 1) := by decide +kernel
theorem dX7_records_44 : decode cX7_records 44 = .ok (.isub, 1) := by decide +kernel
theorem dX7_records_45 : decode cX7_records 45 = .ok (.putfield 46, 3) := by decide +kernel
theorem dX7_records_48 : decode cX7_records 48 = .ok (.iconst 0, 1) := by decide +kernel
theorem dX7_records_49 : decode cX7_records 49 = .ok (.istore_n 1, 1) := by decide +kernel
theorem dX7_records_50 : decode cX7_records 50 = .ok (.iload_n 1, 1) := by decide +kernel
theorem dX7_records_51 : decode cX7_records 51 = .ok (.bipush 72, 2) := by decide +kernel
theorem dX7_records_53 : decode cX7_records 53 = .ok (.if_icmp .ge 29, 3) := by decide +kernel
theorem dX7_records_56 : decode cX7_records 56 = .ok (.aload_n 0, 1) := by decide +kernel
theorem dX7_records_57 : decode cX7_records 57 = .ok (.getfield 16, 3) := by decide +kernel
theorem dX7_records_60 : decode cX7_records 60 = .ok (.bipush 72, 2) := by decide +kernel
theorem dX7_records_62 : decode cX7_records 62 = .ok (.aload_n 0, 1) := by decide +kernel
theorem dX7_records_63 : decode cX7_records 63 = .ok (.getfield 46, 3) := by decide +kernel
theorem dX7_records_66 : decode cX7_records 66 = .ok (.imul, 1) := by decide +kernel
theorem dX7_records_67 : decode cX7_records 67 = .ok (.iload_n 1, 1) := by decide +kernel
theorem dX7_records_68 : decode cX7_records 68 = .ok (.iadd, 1) := by decide +kernel
theorem dX7_records_69 : decode cX7_records 69 = .ok (.aload_n 0, 1) := by decide +kernel
theorem dX7_records_70 : decode cX7_records 70 = .ok (.getfield 7, 3) := by decide +kernel
theorem dX7_records_73 : decode cX7_records 73 = .ok (.iload_n 1, 1) := by decide +kernel
theorem dX7_records_74 : decode cX7_records 74 = .ok (.iaload, 1) := by decide +kernel
theorem dX7_records_75 : decode cX7_records 75 = .ok (.iastore, 1) := by decide +kernel
theorem dX7_records_76 : decode cX7_records 76 = .ok (.iinc 1 1, 3) := by decide +kernel
theorem dX7_records_79 : decode cX7_records 79 = .ok (.goto (-29), 3) := by decide +kernel
theorem dX7_records_82 : decode cX7_records 82 = .ok (.aload_n 0, 1) := by decide +kernel
theorem dX7_records_83 : decode cX7_records 83 = .ok (.dup, 1) := by decide +kernel
theorem dX7_records_84 : decode cX7_records 84 = .ok (.getfield 46, 3) := by decide +kernel
theorem dX7_records_87 : decode cX7_records 87 = .ok (.iconst 1, 1) := by decide +kernel
theorem dX7_records_88 : decode cX7_records 88 = .ok (.iadd, 1) := by decide +kernel
theorem dX7_records_89 : decode cX7_records 89 = .ok (.putfield 46, 3) := by decide +kernel
theorem dX7_records_92 : decode cX7_records 92 = .ok (.return_, 1) := by decide +kernel
theorem dX7_putAside_0 : decode cX7_putAside 0 = .ok (.iconst 0, 1) := by decide +kernel
theorem dX7_putAside_1 : decode cX7_putAside 1 = .ok (.istore_n 1, 1) := by decide +kernel
theorem dX7_putAside_2 : decode cX7_putAside 2 = .ok (.iload_n 1, 1) := by decide +kernel
theorem dX7_putAside_3 : decode cX7_putAside 3 = .ok (.bipush 72, 2) := by decide +kernel
theorem dX7_putAside_5 : decode cX7_putAside 5 = .ok (.if_icmp .ge 21, 3) := by decide +kernel
theorem dX7_putAside_8 : decode cX7_putAside 8 = .ok (.aload_n 0, 1) := by decide +kernel
theorem dX7_putAside_9 : decode cX7_putAside 9 = .ok (.getfield 13, 3) := by decide +kernel
theorem dX7_putAside_12 : decode cX7_putAside 12 = .ok (.iload_n 1, 1) := by decide +kernel
theorem dX7_putAside_13 : decode cX7_putAside 13 = .ok (.aload_n 0, 1) := by decide +kernel
theorem dX7_putAside_14 : decode cX7_putAside 14 = .ok (.getfield 7, 3) := by decide +kernel
theorem dX7_putAside_17 : decode cX7_putAside 17 = .ok (.iload_n 1, 1) := by decide +kernel
theorem dX7_putAside_18 : decode cX7_putAside 18 = .ok (.iaload, 1) := by decide +kernel
theorem dX7_putAside_19 : decode cX7_putAside 19 = .ok (.iastore, 1) := by decide +kernel
theorem dX7_putAside_20 : decode cX7_putAside 20 = .ok (.iinc 1 1, 3) := by decide +kernel
theorem dX7_putAside_23 : decode cX7_putAside 23 = .ok (.goto (-21), 3) := by decide +kernel
theorem dX7_putAside_26 : decode cX7_putAside 26 = .ok (.return_, 1) := by decide +kernel
theorem dX7_takeBack_0 : decode cX7_takeBack 0 = .ok (.iconst 0, 1) := by decide +kernel
theorem dX7_takeBack_1 : decode cX7_takeBack 1 = .ok (.istore_n 1, 1) := by decide +kernel
theorem dX7_takeBack_2 : decode cX7_takeBack 2 = .ok (.iload_n 1, 1) := by decide +kernel
theorem dX7_takeBack_3 : decode cX7_takeBack 3 = .ok (.bipush 72, 2) := by decide +kernel
theorem dX7_takeBack_5 : decode cX7_takeBack 5 = .ok (.if_icmp .ge 21, 3) := by decide +kernel
theorem dX7_takeBack_8 : decode cX7_takeBack 8 = .ok (.aload_n 0, 1) := by decide +kernel
theorem dX7_takeBack_9 : decode cX7_takeBack 9 = .ok (.getfield 7, 3) := by decide +kernel
theorem dX7_takeBack_12 : decode cX7_takeBack 12 = .ok (.iload_n 1, 1) := by decide +kernel
theorem dX7_takeBack_13 : decode cX7_takeBack 13 = .ok (.aload_n 0, 1) := by decide +kernel
theorem dX7_takeBack_14 : decode cX7_takeBack 14 = .ok (.getfield 13, 3) := by decide +kernel
theorem dX7_takeBack_17 : decode cX7_takeBack 17 = .ok (.iload_n 1, 1) := by decide +kernel
theorem dX7_takeBack_18 : decode cX7_takeBack 18 = .ok (.iaload, 1) := by decide +kernel
theorem dX7_takeBack_19 : decode cX7_takeBack 19 = .ok (.iastore, 1) := by decide +kernel
theorem dX7_takeBack_20 : decode cX7_takeBack 20 = .ok (.iinc 1 1, 3) := by decide +kernel
theorem dX7_takeBack_23 : decode cX7_takeBack 23 = .ok (.goto (-21), 3) := by decide +kernel
theorem dX7_takeBack_26 : decode cX7_takeBack 26 = .ok (.return_, 1) := by decide +kernel
theorem dX7_kind_0 : decode cX7_kind 0 = .ok (.iload_n 1, 1) := by decide +kernel
theorem dX7_kind_1 : decode cX7_kind 1 = .ok (.iconst 1, 1) := by decide +kernel
theorem dX7_kind_2 : decode cX7_kind 2 = .ok (.aload_n 0, 1) := by decide +kernel
theorem dX7_kind_3 : decode cX7_kind 3 = .ok (.getfield 7, 3) := by decide +kernel
theorem dX7_kind_6 : decode cX7_kind 6 = .ok (.iconst 2, 1) := by decide +kernel
theorem dX7_kind_7 : decode cX7_kind 7 = .ok (.iaload, 1) := by decide +kernel
theorem dX7_kind_8 : decode cX7_kind 8 = .ok (.invokestatic 49, 3) := by decide +kernel
theorem dX7_kind_11 : decode cX7_kind 11 = .ok (.ifCond .eq 16, 3) := by decide +kernel
theorem dX7_kind_14 : decode cX7_kind 14 = .ok (.aload_n 0, 1) := by decide +kernel
theorem dX7_kind_15 : decode cX7_kind 15 = .ok (.getfield 7, 3) := by decide +kernel
theorem dX7_kind_18 : decode cX7_kind 18 = .ok (.iconst 3, 1) := by decide +kernel
theorem dX7_kind_19 : decode cX7_kind 19 = .ok (.iload_n 1, 1) := by decide +kernel
theorem dX7_kind_20 : decode cX7_kind 20 = .ok (.iadd, 1) := by decide +kernel
theorem dX7_kind_21 : decode cX7_kind 21 = .ok (.iconst 1, 1) := by decide +kernel
theorem dX7_kind_22 : decode cX7_kind 22 = .ok (.isub, 1) := by decide +kernel
theorem dX7_kind_23 : decode cX7_kind 23 = .ok (.iaload, 1) := by decide +kernel
theorem dX7_kind_24 : decode cX7_kind 24 = .ok (.goto 4, 3) := by decide +kernel
theorem dX7_kind_27 : decode cX7_kind 27 = .ok (.iconst 0, 1) := by decide +kernel
theorem dX7_kind_28 : decode cX7_kind 28 = .ok (.ireturn, 1) := by decide +kernel
theorem dX7_next_0 : decode cX7_next 0 = .ok (.iload_n 1, 1) := by decide +kernel
theorem dX7_next_1 : decode cX7_next 1 = .ok (.iconst 1, 1) := by decide +kernel
theorem dX7_next_2 : decode cX7_next 2 = .ok (.iadd, 1) := by decide +kernel
theorem dX7_next_3 : decode cX7_next 3 = .ok (.istore_n 3, 1) := by decide +kernel
theorem dX7_next_4 : decode cX7_next 4 = .ok (.iload_n 3, 1) := by decide +kernel
theorem dX7_next_5 : decode cX7_next 5 = .ok (.iload_n 2, 1) := by decide +kernel
theorem dX7_next_6 : decode cX7_next 6 = .ok (.if_icmp .ne 24, 3) := by decide +kernel
theorem dX7_next_9 : decode cX7_next 9 = .ok (.iload_n 3, 1) := by decide +kernel
theorem dX7_next_10 : decode cX7_next 10 = .ok (.aload_n 0, 1) := by decide +kernel
theorem dX7_next_11 : decode cX7_next 11 = .ok (.invokevirtual 53, 3) := by decide +kernel
theorem dX7_next_14 : decode cX7_next 14 = .ok (.if_icmp .ge 16, 3) := by decide +kernel
theorem dX7_next_17 : decode cX7_next 17 = .ok (.aload_n 0, 1) := by decide +kernel
theorem dX7_next_18 : decode cX7_next 18 = .ok (.dup, 1) := by decide +kernel
theorem dX7_next_19 : decode cX7_next 19 = .ok (.getfield 57, 3) := by decide +kernel
theorem dX7_next_22 : decode cX7_next 22 = .ok (.iconst 1, 1) := by decide +kernel
theorem dX7_next_23 : decode cX7_next 23 = .ok (.iadd, 1) := by decide +kernel
theorem dX7_next_24 : decode cX7_next 24 = .ok (.putfield 57, 3) := by decide +kernel
theorem dX7_next_27 : decode cX7_next 27 = .ok (.iinc 3 1, 3) := by decide +kernel
theorem dX7_next_30 : decode cX7_next 30 = .ok (.iload_n 3, 1) := by decide +kernel
theorem dX7_next_31 : decode cX7_next 31 = .ok (.aload_n 0, 1) := by decide +kernel
theorem dX7_next_32 : decode cX7_next 32 = .ok (.invokevirtual 53, 3) := by decide +kernel
theorem dX7_next_35 : decode cX7_next 35 = .ok (.if_icmp .ge 7, 3) := by decide +kernel
theorem dX7_next_38 : decode cX7_next 38 = .ok (.iload_n 3, 1) := by decide +kernel
theorem dX7_next_39 : decode cX7_next 39 = .ok (.goto 7, 3) := by decide +kernel
theorem dX7_next_42 : decode cX7_next 42 = .ok (.aload_n 0, 1) := by decide +kernel
theorem dX7_next_43 : decode cX7_next 43 = .ok (.invokevirtual 53, 3) := by decide +kernel
theorem dX7_next_46 : decode cX7_next 46 = .ok (.ireturn, 1) := by decide +kernel
theorem dX7_drives_0 : decode cX7_drives 0 = .ok (.aload_n 0, 1) := by decide +kernel
theorem dX7_drives_1 : decode cX7_drives 1 = .ok (.iconst 0, 1) := by decide +kernel
theorem dX7_drives_2 : decode cX7_drives 2 = .ok (.putfield 57, 3) := by decide +kernel
theorem dX7_drives_5 : decode cX7_drives 5 = .ok (.aload_n 0, 1) := by decide +kernel
theorem dX7_drives_6 : decode cX7_drives 6 = .ok (.iconst 0, 1) := by decide +kernel
theorem dX7_drives_7 : decode cX7_drives 7 = .ok (.putfield 60, 3) := by decide +kernel
theorem dX7_drives_10 : decode cX7_drives 10 = .ok (.aload_n 0, 1) := by decide +kernel
theorem dX7_drives_11 : decode cX7_drives 11 = .ok (.iload_n 1, 1) := by decide +kernel
theorem dX7_drives_12 : decode cX7_drives 12 = .ok (.putfield 63, 3) := by decide +kernel
theorem dX7_drives_15 : decode cX7_drives 15 = .ok (.iconst 0, 1) := by decide +kernel
theorem dX7_drives_16 : decode cX7_drives 16 = .ok (.istore 5, 2) := by decide +kernel
theorem dX7_drives_18 : decode cX7_drives 18 = .ok (.iload 5, 2) := by decide +kernel
theorem dX7_drives_20 : decode cX7_drives 20 = .ok (.iload_n 3, 1) := by decide +kernel
theorem dX7_drives_21 : decode cX7_drives 21 = .ok (.if_icmp .ge 33, 3) := by decide +kernel
theorem dX7_drives_24 : decode cX7_drives 24 = .ok (.aload_n 0, 1) := by decide +kernel
theorem dX7_drives_25 : decode cX7_drives 25 = .ok (.getfield 63, 3) := by decide +kernel
theorem dX7_drives_28 : decode cX7_drives 28 = .ok (.aload_n 0, 1) := by decide +kernel
theorem dX7_drives_29 : decode cX7_drives 29 = .ok (.invokevirtual 53, 3) := by decide +kernel
theorem dX7_drives_32 : decode cX7_drives 32 = .ok (.if_icmp .ge 22, 3) := by decide +kernel
theorem dX7_drives_35 : decode cX7_drives 35 = .ok (.aload_n 0, 1) := by decide +kernel
theorem dX7_drives_36 : decode cX7_drives 36 = .ok (.aload_n 0, 1) := by decide +kernel
theorem dX7_drives_37 : decode cX7_drives 37 = .ok (.aload_n 0, 1) := by decide +kernel
theorem dX7_drives_38 : decode cX7_drives 38 = .ok (.getfield 63, 3) := by decide +kernel
theorem dX7_drives_41 : decode cX7_drives 41 = .ok (.iload_n 2, 1) := by decide +kernel
theorem dX7_drives_42 : decode cX7_drives 42 = .ok (.invokevirtual 66, 3) := by decide +kernel
theorem dX7_drives_45 : decode cX7_drives 45 = .ok (.putfield 63, 3) := by decide +kernel
theorem dX7_drives_48 : decode cX7_drives 48 = .ok (.iinc 5 1, 3) := by decide +kernel
theorem dX7_drives_51 : decode cX7_drives 51 = .ok (.goto (-33), 3) := by decide +kernel
theorem dX7_drives_54 : decode cX7_drives 54 = .ok (.aload_n 0, 1) := by decide +kernel
theorem dX7_drives_55 : decode cX7_drives 55 = .ok (.iload 4, 2) := by decide +kernel
theorem dX7_drives_57 : decode cX7_drives 57 = .ok (.invokevirtual 70, 3) := by decide +kernel
theorem dX7_drives_60 : decode cX7_drives 60 = .ok (.aload_n 0, 1) := by decide +kernel
theorem dX7_drives_61 : decode cX7_drives 61 = .ok (.aload_n 0, 1) := by decide +kernel
theorem dX7_drives_62 : decode cX7_drives 62 = .ok (.getfield 63, 3) := by decide +kernel
theorem dX7_drives_65 : decode cX7_drives 65 = .ok (.invokevirtual 74, 3) := by decide +kernel
theorem dX7_drives_68 : decode cX7_drives 68 = .ok (.iconst 2, 1) := by decide +kernel
theorem dX7_drives_69 : decode cX7_drives 69 = .ok (.if_icmp .ne 35, 3) := by decide +kernel
theorem dX7_drives_72 : decode cX7_drives 72 = .ok (.aload_n 0, 1) := by decide +kernel
theorem dX7_drives_73 : decode cX7_drives 73 = .ok (.dup, 1) := by decide +kernel
theorem dX7_drives_74 : decode cX7_drives 74 = .ok (.getfield 60, 3) := by decide +kernel
theorem dX7_drives_77 : decode cX7_drives 77 = .ok (.iconst 1, 1) := by decide +kernel
theorem dX7_drives_78 : decode cX7_drives 78 = .ok (.iadd, 1) := by decide +kernel
theorem dX7_drives_79 : decode cX7_drives 79 = .ok (.putfield 60, 3) := by decide +kernel
theorem dX7_drives_82 : decode cX7_drives 82 = .ok (.aload_n 0, 1) := by decide +kernel
theorem dX7_drives_83 : decode cX7_drives 83 = .ok (.aload_n 0, 1) := by decide +kernel
theorem dX7_drives_84 : decode cX7_drives 84 = .ok (.aload_n 0, 1) := by decide +kernel
theorem dX7_drives_85 : decode cX7_drives 85 = .ok (.getfield 63, 3) := by decide +kernel
theorem dX7_drives_88 : decode cX7_drives 88 = .ok (.iload_n 2, 1) := by decide +kernel
theorem dX7_drives_89 : decode cX7_drives 89 = .ok (.invokevirtual 66, 3) := by decide +kernel
theorem dX7_drives_92 : decode cX7_drives 92 = .ok (.putfield 63, 3) := by decide +kernel
theorem dX7_drives_95 : decode cX7_drives 95 = .ok (.aload_n 0, 1) := by decide +kernel
theorem dX7_drives_96 : decode cX7_drives 96 = .ok (.iload 4, 2) := by decide +kernel
theorem dX7_drives_98 : decode cX7_drives 98 = .ok (.invokevirtual 70, 3) := by decide +kernel
theorem dX7_drives_101 : decode cX7_drives 101 = .ok (.goto (-41), 3) := by decide +kernel
theorem dX7_drives_104 : decode cX7_drives 104 = .ok (.aload_n 0, 1) := by decide +kernel
theorem dX7_drives_105 : decode cX7_drives 105 = .ok (.aload_n 0, 1) := by decide +kernel
theorem dX7_drives_106 : decode cX7_drives 106 = .ok (.aload_n 0, 1) := by decide +kernel
theorem dX7_drives_107 : decode cX7_drives 107 = .ok (.getfield 63, 3) := by decide +kernel
theorem dX7_drives_110 : decode cX7_drives 110 = .ok (.invokevirtual 74, 3) := by decide +kernel
theorem dX7_drives_113 : decode cX7_drives 113 = .ok (.iconst 1, 1) := by decide +kernel
theorem dX7_drives_114 : decode cX7_drives 114 = .ok (.if_icmp .ne 7, 3) := by decide +kernel
theorem dX7_drives_117 : decode cX7_drives 117 = .ok (.iconst 1, 1) := by decide +kernel
theorem dX7_drives_118 : decode cX7_drives 118 = .ok (.goto 4, 3) := by decide +kernel
theorem dX7_drives_121 : decode cX7_drives 121 = .ok (.iconst 0, 1) := by decide +kernel
theorem dX7_drives_122 : decode cX7_drives 122 = .ok (.putfield 78, 3) := by decide +kernel
theorem dX7_drives_125 : decode cX7_drives 125 = .ok (.aload_n 0, 1) := by decide +kernel
theorem dX7_drives_126 : decode cX7_drives 126 = .ok (.aload_n 0, 1) := by decide +kernel
theorem dX7_drives_127 : decode cX7_drives 127 = .ok (.aload_n 0, 1) := by decide +kernel
theorem dX7_drives_128 : decode cX7_drives 128 = .ok (.getfield 63, 3) := by decide +kernel
theorem dX7_drives_131 : decode cX7_drives 131 = .ok (.invokevirtual 74, 3) := by decide +kernel
theorem dX7_drives_134 : decode cX7_drives 134 = .ok (.iconst 3, 1) := by decide +kernel
theorem dX7_drives_135 : decode cX7_drives 135 = .ok (.if_icmp .ne 7, 3) := by decide +kernel
theorem dX7_drives_138 : decode cX7_drives 138 = .ok (.iconst 1, 1) := by decide +kernel
theorem dX7_drives_139 : decode cX7_drives 139 = .ok (.goto 4, 3) := by decide +kernel
theorem dX7_drives_142 : decode cX7_drives 142 = .ok (.iconst 0, 1) := by decide +kernel
theorem dX7_drives_143 : decode cX7_drives 143 = .ok (.putfield 81, 3) := by decide +kernel
theorem dX7_drives_146 : decode cX7_drives 146 = .ok (.return_, 1) := by decide +kernel
theorem dX7_visits_0 : decode cX7_visits 0 = .ok (.iload_n 1, 1) := by decide +kernel
theorem dX7_visits_1 : decode cX7_visits 1 = .ok (.bipush (-4), 2) := by decide +kernel
theorem dX7_visits_3 : decode cX7_visits 3 = .ok (.if_icmp .eq 36, 3) := by decide +kernel
theorem dX7_visits_6 : decode cX7_visits 6 = .ok (.aload_n 0, 1) := by decide +kernel
theorem dX7_visits_7 : decode cX7_visits 7 = .ok (.getfield 63, 3) := by decide +kernel
theorem dX7_visits_10 : decode cX7_visits 10 = .ok (.aload_n 0, 1) := by decide +kernel
theorem dX7_visits_11 : decode cX7_visits 11 = .ok (.invokevirtual 53, 3) := by decide +kernel
theorem dX7_visits_14 : decode cX7_visits 14 = .ok (.if_icmp .ge 25, 3) := by decide +kernel
theorem dX7_visits_17 : decode cX7_visits 17 = .ok (.aload_n 0, 1) := by decide +kernel
theorem dX7_visits_18 : decode cX7_visits 18 = .ok (.getfield 7, 3) := by decide +kernel
theorem dX7_visits_21 : decode cX7_visits 21 = .ok (.bipush 39, 2) := by decide +kernel
theorem dX7_visits_23 : decode cX7_visits 23 = .ok (.iconst 2, 1) := by decide +kernel
theorem dX7_visits_24 : decode cX7_visits 24 = .ok (.aload_n 0, 1) := by decide +kernel
theorem dX7_visits_25 : decode cX7_visits 25 = .ok (.getfield 63, 3) := by decide +kernel
theorem dX7_visits_28 : decode cX7_visits 28 = .ok (.iconst 1, 1) := by decide +kernel
theorem dX7_visits_29 : decode cX7_visits 29 = .ok (.isub, 1) := by decide +kernel
theorem dX7_visits_30 : decode cX7_visits 30 = .ok (.imul, 1) := by decide +kernel
theorem dX7_visits_31 : decode cX7_visits 31 = .ok (.iadd, 1) := by decide +kernel
theorem dX7_visits_32 : decode cX7_visits 32 = .ok (.iload_n 1, 1) := by decide +kernel
theorem dX7_visits_33 : decode cX7_visits 33 = .ok (.iadd, 1) := by decide +kernel
theorem dX7_visits_34 : decode cX7_visits 34 = .ok (.dup2, 1) := by decide +kernel
theorem dX7_visits_35 : decode cX7_visits 35 = .ok (.iaload, 1) := by decide +kernel
theorem dX7_visits_36 : decode cX7_visits 36 = .ok (.iconst 1, 1) := by decide +kernel
theorem dX7_visits_37 : decode cX7_visits 37 = .ok (.iadd, 1) := by decide +kernel
theorem dX7_visits_38 : decode cX7_visits 38 = .ok (.iastore, 1) := by decide +kernel
theorem dX7_visits_39 : decode cX7_visits 39 = .ok (.return_, 1) := by decide +kernel
theorem dX7_numberOf_0 : decode cX7_numberOf 0 = .ok (.iload_n 0, 1) := by decide +kernel
theorem dX7_numberOf_1 : decode cX7_numberOf 1 = .ok (.bipush 16, 2) := by decide +kernel
theorem dX7_numberOf_3 : decode cX7_numberOf 3 = .ok (.imul, 1) := by decide +kernel
theorem dX7_numberOf_4 : decode cX7_numberOf 4 = .ok (.iload_n 1, 1) := by decide +kernel
theorem dX7_numberOf_5 : decode cX7_numberOf 5 = .ok (.iadd, 1) := by decide +kernel
theorem dX7_numberOf_6 : decode cX7_numberOf 6 = .ok (.iconst 2, 1) := by decide +kernel
theorem dX7_numberOf_7 : decode cX7_numberOf 7 = .ok (.imul, 1) := by decide +kernel
theorem dX7_numberOf_8 : decode cX7_numberOf 8 = .ok (.iload_n 2, 1) := by decide +kernel
theorem dX7_numberOf_9 : decode cX7_numberOf 9 = .ok (.iadd, 1) := by decide +kernel
theorem dX7_numberOf_10 : decode cX7_numberOf 10 = .ok (.iconst 2, 1) := by decide +kernel
theorem dX7_numberOf_11 : decode cX7_numberOf 11 = .ok (.imul, 1) := by decide +kernel
theorem dX7_numberOf_12 : decode cX7_numberOf 12 = .ok (.iload_n 3, 1) := by decide +kernel
theorem dX7_numberOf_13 : decode cX7_numberOf 13 = .ok (.iadd, 1) := by decide +kernel
theorem dX7_numberOf_14 : decode cX7_numberOf 14 = .ok (.iconst 4, 1) := by decide +kernel
theorem dX7_numberOf_15 : decode cX7_numberOf 15 = .ok (.imul, 1) := by decide +kernel
theorem dX7_numberOf_16 : decode cX7_numberOf 16 = .ok (.iload 4, 2) := by decide +kernel
theorem dX7_numberOf_18 : decode cX7_numberOf 18 = .ok (.iadd, 1) := by decide +kernel
theorem dX7_numberOf_19 : decode cX7_numberOf 19 = .ok (.iconst 4, 1) := by decide +kernel
theorem dX7_numberOf_20 : decode cX7_numberOf 20 = .ok (.imul, 1) := by decide +kernel
theorem dX7_numberOf_21 : decode cX7_numberOf 21 = .ok (.iload 5, 2) := by decide +kernel
theorem dX7_numberOf_23 : decode cX7_numberOf 23 = .ok (.iadd, 1) := by decide +kernel
theorem dX7_numberOf_24 : decode cX7_numberOf 24 = .ok (.ireturn, 1) := by decide +kernel
theorem dX7_turned_0 : decode cX7_turned 0 = .ok (.iload_n 0, 1) := by decide +kernel
theorem dX7_turned_1 : decode cX7_turned 1 = .ok (.ifCond .le 10, 3) := by decide +kernel
theorem dX7_turned_4 : decode cX7_turned 4 = .ok (.iload_n 0, 1) := by decide +kernel
theorem dX7_turned_5 : decode cX7_turned 5 = .ok (.iconst 1, 1) := by decide +kernel
theorem dX7_turned_6 : decode cX7_turned 6 = .ok (.isub, 1) := by decide +kernel
theorem dX7_turned_7 : decode cX7_turned 7 = .ok (.ineg, 1) := by decide +kernel
theorem dX7_turned_8 : decode cX7_turned 8 = .ok (.goto 7, 3) := by decide +kernel
theorem dX7_turned_11 : decode cX7_turned 11 = .ok (.iload_n 0, 1) := by decide +kernel
theorem dX7_turned_12 : decode cX7_turned 12 = .ok (.iconst 1, 1) := by decide +kernel
theorem dX7_turned_13 : decode cX7_turned 13 = .ok (.iadd, 1) := by decide +kernel
theorem dX7_turned_14 : decode cX7_turned 14 = .ok (.ineg, 1) := by decide +kernel
theorem dX7_turned_15 : decode cX7_turned 15 = .ok (.ireturn, 1) := by decide +kernel
theorem dX7_worthBehindDrive_0 : decode cX7_worthBehindDrive 0 = .ok (.aload_n 0, 1) := by decide +kernel
theorem dX7_worthBehindDrive_1 : decode cX7_worthBehindDrive 1 = .ok (.iload_n 1, 1) := by decide +kernel
theorem dX7_worthBehindDrive_2 : decode cX7_worthBehindDrive 2 = .ok (.iload_n 2, 1) := by decide +kernel
theorem dX7_worthBehindDrive_3 : decode cX7_worthBehindDrive 3 = .ok (.iload 6, 2) := by decide +kernel
theorem dX7_worthBehindDrive_5 : decode cX7_worthBehindDrive 5 = .ok (.bipush (-4), 2) := by decide +kernel
theorem dX7_worthBehindDrive_7 : decode cX7_worthBehindDrive 7 = .ok (.invokevirtual 85, 3) := by decide +kernel
theorem dX7_worthBehindDrive_10 : decode cX7_worthBehindDrive 10 = .ok (.aload_n 0, 1) := by decide +kernel
theorem dX7_worthBehindDrive_11 : decode cX7_worthBehindDrive 11 = .ok (.getfield 63, 3) := by decide +kernel
theorem dX7_worthBehindDrive_14 : decode cX7_worthBehindDrive 14 = .ok (.aload_n 0, 1) := by decide +kernel
theorem dX7_worthBehindDrive_15 : decode cX7_worthBehindDrive 15 = .ok (.invokevirtual 53, 3) := by decide +kernel
theorem dX7_worthBehindDrive_18 : decode cX7_worthBehindDrive 18 = .ok (.if_icmp .ne 10, 3) := by decide +kernel
theorem dX7_worthBehindDrive_21 : decode cX7_worthBehindDrive 21 = .ok (.sipush (-500), 3) := by decide +kernel
theorem dX7_worthBehindDrive_24 : decode cX7_worthBehindDrive 24 = .ok (.invokestatic 89, 3) := by decide +kernel
theorem dX7_worthBehindDrive_27 : decode cX7_worthBehindDrive 27 = .ok (.ireturn, 1) := by decide +kernel
theorem dX7_worthBehindDrive_28 : decode cX7_worthBehindDrive 28 = .ok (.aload_n 0, 1) := by decide +kernel
theorem dX7_worthBehindDrive_29 : decode cX7_worthBehindDrive 29 = .ok (.getfield 26, 3) := by decide +kernel
theorem dX7_worthBehindDrive_32 : decode cX7_worthBehindDrive 32 = .ok (.iload_n 2, 1) := by decide +kernel
theorem dX7_worthBehindDrive_33 : decode cX7_worthBehindDrive 33 = .ok (.aload_n 0, 1) := by decide +kernel
theorem dX7_worthBehindDrive_34 : decode cX7_worthBehindDrive 34 = .ok (.getfield 63, 3) := by decide +kernel
theorem dX7_worthBehindDrive_37 : decode cX7_worthBehindDrive 37 = .ok (.iload 4, 2) := by decide +kernel
theorem dX7_worthBehindDrive_39 : decode cX7_worthBehindDrive 39 = .ok (.aload_n 0, 1) := by decide +kernel
theorem dX7_worthBehindDrive_40 : decode cX7_worthBehindDrive 40 = .ok (.getfield 81, 3) := by decide +kernel
theorem dX7_worthBehindDrive_43 : decode cX7_worthBehindDrive 43 = .ok (.ifCond .eq 7, 3) := by decide +kernel
theorem dX7_worthBehindDrive_46 : decode cX7_worthBehindDrive 46 = .ok (.iconst 1, 1) := by decide +kernel
theorem dX7_worthBehindDrive_47 : decode cX7_worthBehindDrive 47 = .ok (.goto 4, 3) := by decide +kernel
theorem dX7_worthBehindDrive_50 : decode cX7_worthBehindDrive 50 = .ok (.iload_n 3, 1) := by decide +kernel
theorem dX7_worthBehindDrive_51 : decode cX7_worthBehindDrive 51 = .ok (.iload 5, 2) := by decide +kernel
theorem dX7_worthBehindDrive_53 : decode cX7_worthBehindDrive 53 = .ok (.aload_n 0, 1) := by decide +kernel
theorem dX7_worthBehindDrive_54 : decode cX7_worthBehindDrive 54 = .ok (.getfield 78, 3) := by decide +kernel
theorem dX7_worthBehindDrive_57 : decode cX7_worthBehindDrive 57 = .ok (.invokestatic 92, 3) := by decide +kernel
theorem dX7_worthBehindDrive_60 : decode cX7_worthBehindDrive 60 = .ok (.iaload, 1) := by decide +kernel
theorem dX7_worthBehindDrive_61 : decode cX7_worthBehindDrive 61 = .ok (.invokestatic 89, 3) := by decide +kernel
theorem dX7_worthBehindDrive_64 : decode cX7_worthBehindDrive 64 = .ok (.ireturn, 1) := by decide +kernel
theorem dX7_worthBehindToken_0 : decode cX7_worthBehindToken 0 = .ok (.iload 4, 2) := by decide +kernel
theorem dX7_worthBehindToken_2 : decode cX7_worthBehindToken 2 = .ok (.aload_n 0, 1) := by decide +kernel
theorem dX7_worthBehindToken_3 : decode cX7_worthBehindToken 3 = .ok (.getfield 7, 3) := by decide +kernel
theorem dX7_worthBehindToken_6 : decode cX7_worthBehindToken 6 = .ok (.iconst 1, 1) := by decide +kernel
theorem dX7_worthBehindToken_7 : decode cX7_worthBehindToken 7 = .ok (.iaload, 1) := by decide +kernel
theorem dX7_worthBehindToken_8 : decode cX7_worthBehindToken 8 = .ok (.iadd, 1) := by decide +kernel
theorem dX7_worthBehindToken_9 : decode cX7_worthBehindToken 9 = .ok (.iconst 3, 1) := by decide +kernel
theorem dX7_worthBehindToken_10 : decode cX7_worthBehindToken 10 = .ok (.if_icmp .ge 15, 3) := by decide +kernel
theorem dX7_worthBehindToken_13 : decode cX7_worthBehindToken 13 = .ok (.iload 4, 2) := by decide +kernel
theorem dX7_worthBehindToken_15 : decode cX7_worthBehindToken 15 = .ok (.aload_n 0, 1) := by decide +kernel
theorem dX7_worthBehindToken_16 : decode cX7_worthBehindToken 16 = .ok (.getfield 7, 3) := by decide +kernel
theorem dX7_worthBehindToken_19 : decode cX7_worthBehindToken 19 = .ok (.iconst 1, 1) := by decide +kernel
theorem dX7_worthBehindToken_20 : decode cX7_worthBehindToken 20 = .ok (.iaload, 1) := by decide +kernel
theorem dX7_worthBehindToken_21 : decode cX7_worthBehindToken 21 = .ok (.iadd, 1) := by decide +kernel
theorem dX7_worthBehindToken_22 : decode cX7_worthBehindToken 22 = .ok (.goto 4, 3) := by decide +kernel
theorem dX7_worthBehindToken_25 : decode cX7_worthBehindToken 25 = .ok (.iconst 3, 1) := by decide +kernel
theorem dX7_worthBehindToken_26 : decode cX7_worthBehindToken 26 = .ok (.istore 5, 2) := by decide +kernel
theorem dX7_worthBehindToken_28 : decode cX7_worthBehindToken 28 = .ok (.aload_n 0, 1) := by decide +kernel
theorem dX7_worthBehindToken_29 : decode cX7_worthBehindToken 29 = .ok (.getfield 26, 3) := by decide +kernel
theorem dX7_worthBehindToken_32 : decode cX7_worthBehindToken 32 = .ok (.iload_n 2, 1) := by decide +kernel
theorem dX7_worthBehindToken_33 : decode cX7_worthBehindToken 33 = .ok (.iload_n 1, 1) := by decide +kernel
theorem dX7_worthBehindToken_34 : decode cX7_worthBehindToken 34 = .ok (.iload_n 3, 1) := by decide +kernel
theorem dX7_worthBehindToken_35 : decode cX7_worthBehindToken 35 = .ok (.iconst 0, 1) := by decide +kernel
theorem dX7_worthBehindToken_36 : decode cX7_worthBehindToken 36 = .ok (.iload 5, 2) := by decide +kernel
theorem dX7_worthBehindToken_38 : decode cX7_worthBehindToken 38 = .ok (.iconst 0, 1) := by decide +kernel
theorem dX7_worthBehindToken_39 : decode cX7_worthBehindToken 39 = .ok (.invokestatic 92, 3) := by decide +kernel
theorem dX7_worthBehindToken_42 : decode cX7_worthBehindToken 42 = .ok (.iaload, 1) := by decide +kernel
theorem dX7_worthBehindToken_43 : decode cX7_worthBehindToken 43 = .ok (.invokestatic 89, 3) := by decide +kernel
theorem dX7_worthBehindToken_46 : decode cX7_worthBehindToken 46 = .ok (.ireturn, 1) := by decide +kernel
theorem dX7_worthAt_0 : decode cX7_worthAt 0 = .ok (.iload 5, 2) := by decide +kernel
theorem dX7_worthAt_2 : decode cX7_worthAt 2 = .ok (.ifCond .le 26, 3) := by decide +kernel
theorem dX7_worthAt_5 : decode cX7_worthAt 5 = .ok (.aload_n 0, 1) := by decide +kernel
theorem dX7_worthAt_6 : decode cX7_worthAt 6 = .ok (.getfield 26, 3) := by decide +kernel
theorem dX7_worthAt_9 : decode cX7_worthAt 9 = .ok (.iload_n 2, 1) := by decide +kernel
theorem dX7_worthAt_10 : decode cX7_worthAt 10 = .ok (.iload_n 1, 1) := by decide +kernel
theorem dX7_worthAt_11 : decode cX7_worthAt 11 = .ok (.iload 4, 2) := by decide +kernel
theorem dX7_worthAt_13 : decode cX7_worthAt 13 = .ok (.iload_n 3, 1) := by decide +kernel
theorem dX7_worthAt_14 : decode cX7_worthAt 14 = .ok (.iload 6, 2) := by decide +kernel
theorem dX7_worthAt_16 : decode cX7_worthAt 16 = .ok (.iload 5, 2) := by decide +kernel
theorem dX7_worthAt_18 : decode cX7_worthAt 18 = .ok (.iconst 1, 1) := by decide +kernel
theorem dX7_worthAt_19 : decode cX7_worthAt 19 = .ok (.isub, 1) := by decide +kernel
theorem dX7_worthAt_20 : decode cX7_worthAt 20 = .ok (.invokestatic 92, 3) := by decide +kernel
theorem dX7_worthAt_23 : decode cX7_worthAt 23 = .ok (.iaload, 1) := by decide +kernel
theorem dX7_worthAt_24 : decode cX7_worthAt 24 = .ok (.invokestatic 89, 3) := by decide +kernel
theorem dX7_worthAt_27 : decode cX7_worthAt 27 = .ok (.ireturn, 1) := by decide +kernel
theorem dX7_worthAt_28 : decode cX7_worthAt 28 = .ok (.sipush (-500), 3) := by decide +kernel
theorem dX7_worthAt_31 : decode cX7_worthAt 31 = .ok (.istore 7, 2) := by decide +kernel
theorem dX7_worthAt_33 : decode cX7_worthAt 33 = .ok (.iconst 1, 1) := by decide +kernel
theorem dX7_worthAt_34 : decode cX7_worthAt 34 = .ok (.istore 8, 2) := by decide +kernel
theorem dX7_worthAt_36 : decode cX7_worthAt 36 = .ok (.iload 8, 2) := by decide +kernel
theorem dX7_worthAt_38 : decode cX7_worthAt 38 = .ok (.aload_n 0, 1) := by decide +kernel
theorem dX7_worthAt_39 : decode cX7_worthAt 39 = .ok (.getfield 7, 3) := by decide +kernel
theorem dX7_worthAt_42 : decode cX7_worthAt 42 = .ok (.iconst 0, 1) := by decide +kernel
theorem dX7_worthAt_43 : decode cX7_worthAt 43 = .ok (.iaload, 1) := by decide +kernel
theorem dX7_worthAt_44 : decode cX7_worthAt 44 = .ok (.if_icmp .gt 40, 3) := by decide +kernel
theorem dX7_worthAt_47 : decode cX7_worthAt 47 = .ok (.aload_n 0, 1) := by decide +kernel
theorem dX7_worthAt_48 : decode cX7_worthAt 48 = .ok (.iload_n 1, 1) := by decide +kernel
theorem dX7_worthAt_49 : decode cX7_worthAt 49 = .ok (.iload_n 2, 1) := by decide +kernel
theorem dX7_worthAt_50 : decode cX7_worthAt 50 = .ok (.iload_n 3, 1) := by decide +kernel
theorem dX7_worthAt_51 : decode cX7_worthAt 51 = .ok (.iload 4, 2) := by decide +kernel
theorem dX7_worthAt_53 : decode cX7_worthAt 53 = .ok (.iload 6, 2) := by decide +kernel
theorem dX7_worthAt_55 : decode cX7_worthAt 55 = .ok (.iload 8, 2) := by decide +kernel
theorem dX7_worthAt_57 : decode cX7_worthAt 57 = .ok (.invokevirtual 96, 3) := by decide +kernel
theorem dX7_worthAt_60 : decode cX7_worthAt 60 = .ok (.istore 9, 2) := by decide +kernel
theorem dX7_worthAt_62 : decode cX7_worthAt 62 = .ok (.iload 9, 2) := by decide +kernel
theorem dX7_worthAt_64 : decode cX7_worthAt 64 = .ok (.iload 7, 2) := by decide +kernel
theorem dX7_worthAt_66 : decode cX7_worthAt 66 = .ok (.if_icmp .le 8, 3) := by decide +kernel
theorem dX7_worthAt_69 : decode cX7_worthAt 69 = .ok (.iload 9, 2) := by decide +kernel
theorem dX7_worthAt_71 : decode cX7_worthAt 71 = .ok (.goto 5, 3) := by decide +kernel
theorem dX7_worthAt_74 : decode cX7_worthAt 74 = .ok (.iload 7, 2) := by decide +kernel
theorem dX7_worthAt_76 : decode cX7_worthAt 76 = .ok (.istore 7, 2) := by decide +kernel
theorem dX7_worthAt_78 : decode cX7_worthAt 78 = .ok (.iinc 8 1, 3) := by decide +kernel
theorem dX7_worthAt_81 : decode cX7_worthAt 81 = .ok (.goto (-45), 3) := by decide +kernel
theorem dX7_worthAt_84 : decode cX7_worthAt 84 = .ok (.iload_n 3, 1) := by decide +kernel
theorem dX7_worthAt_85 : decode cX7_worthAt 85 = .ok (.iconst 1, 1) := by decide +kernel
theorem dX7_worthAt_86 : decode cX7_worthAt 86 = .ok (.if_icmp .ne 16, 3) := by decide +kernel
theorem dX7_worthAt_89 : decode cX7_worthAt 89 = .ok (.aload_n 0, 1) := by decide +kernel
theorem dX7_worthAt_90 : decode cX7_worthAt 90 = .ok (.iload_n 1, 1) := by decide +kernel
theorem dX7_worthAt_91 : decode cX7_worthAt 91 = .ok (.iload_n 2, 1) := by decide +kernel
theorem dX7_worthAt_92 : decode cX7_worthAt 92 = .ok (.iload 4, 2) := by decide +kernel
theorem dX7_worthAt_94 : decode cX7_worthAt 94 = .ok (.iload 6, 2) := by decide +kernel
theorem dX7_worthAt_96 : decode cX7_worthAt 96 = .ok (.invokevirtual 99, 3) := by decide +kernel
theorem dX7_worthAt_99 : decode cX7_worthAt 99 = .ok (.goto 6, 3) := by decide +kernel
theorem dX7_worthAt_102 : decode cX7_worthAt 102 = .ok (.sipush (-500), 3) := by decide +kernel
theorem dX7_worthAt_105 : decode cX7_worthAt 105 = .ok (.istore 8, 2) := by decide +kernel
theorem dX7_worthAt_107 : decode cX7_worthAt 107 = .ok (.iload 8, 2) := by decide +kernel
theorem dX7_worthAt_109 : decode cX7_worthAt 109 = .ok (.iload 7, 2) := by decide +kernel
theorem dX7_worthAt_111 : decode cX7_worthAt 111 = .ok (.if_icmp .le 8, 3) := by decide +kernel
theorem dX7_worthAt_114 : decode cX7_worthAt 114 = .ok (.iload 8, 2) := by decide +kernel
theorem dX7_worthAt_116 : decode cX7_worthAt 116 = .ok (.goto 5, 3) := by decide +kernel
theorem dX7_worthAt_119 : decode cX7_worthAt 119 = .ok (.iload 7, 2) := by decide +kernel
theorem dX7_worthAt_121 : decode cX7_worthAt 121 = .ok (.ireturn, 1) := by decide +kernel
theorem dX7_tellsPlaces_0 : decode cX7_tellsPlaces 0 = .ok (.iconst 0, 1) := by decide +kernel
theorem dX7_tellsPlaces_1 : decode cX7_tellsPlaces 1 = .ok (.istore_n 3, 1) := by decide +kernel
theorem dX7_tellsPlaces_2 : decode cX7_tellsPlaces 2 = .ok (.iload_n 3, 1) := by decide +kernel
theorem dX7_tellsPlaces_3 : decode cX7_tellsPlaces 3 = .ok (.iconst 3, 1) := by decide +kernel
theorem dX7_tellsPlaces_4 : decode cX7_tellsPlaces 4 = .ok (.if_icmp .ge 34, 3) := by decide +kernel
theorem dX7_tellsPlaces_7 : decode cX7_tellsPlaces 7 = .ok (.iconst 0, 1) := by decide +kernel
theorem dX7_tellsPlaces_8 : decode cX7_tellsPlaces 8 = .ok (.istore 4, 2) := by decide +kernel
theorem dX7_tellsPlaces_10 : decode cX7_tellsPlaces 10 = .ok (.iload 4, 2) := by decide +kernel
theorem dX7_tellsPlaces_12 : decode cX7_tellsPlaces 12 = .ok (.bipush 6, 2) := by decide +kernel
theorem dX7_tellsPlaces_14 : decode cX7_tellsPlaces 14 = .ok (.if_icmp .gt 18, 3) := by decide +kernel
theorem dX7_tellsPlaces_17 : decode cX7_tellsPlaces 17 = .ok (.aload_n 0, 1) := by decide +kernel
theorem dX7_tellsPlaces_18 : decode cX7_tellsPlaces 18 = .ok (.iload_n 1, 1) := by decide +kernel
theorem dX7_tellsPlaces_19 : decode cX7_tellsPlaces 19 = .ok (.iload_n 2, 1) := by decide +kernel
theorem dX7_tellsPlaces_20 : decode cX7_tellsPlaces 20 = .ok (.iload_n 3, 1) := by decide +kernel
theorem dX7_tellsPlaces_21 : decode cX7_tellsPlaces 21 = .ok (.iload 4, 2) := by decide +kernel
theorem dX7_tellsPlaces_23 : decode cX7_tellsPlaces 23 = .ok (.invokevirtual 103, 3) := by decide +kernel
theorem dX7_tellsPlaces_26 : decode cX7_tellsPlaces 26 = .ok (.iinc 4 1, 3) := by decide +kernel
theorem dX7_tellsPlaces_29 : decode cX7_tellsPlaces 29 = .ok (.goto (-19), 3) := by decide +kernel
theorem dX7_tellsPlaces_32 : decode cX7_tellsPlaces 32 = .ok (.iinc 3 1, 3) := by decide +kernel
theorem dX7_tellsPlaces_35 : decode cX7_tellsPlaces 35 = .ok (.goto (-33), 3) := by decide +kernel
theorem dX7_tellsPlaces_38 : decode cX7_tellsPlaces 38 = .ok (.return_, 1) := by decide +kernel
theorem dX7_tellsSome_0 : decode cX7_tellsSome 0 = .ok (.iconst 0, 1) := by decide +kernel
theorem dX7_tellsSome_1 : decode cX7_tellsSome 1 = .ok (.istore 5, 2) := by decide +kernel
theorem dX7_tellsSome_3 : decode cX7_tellsSome 3 = .ok (.iload 5, 2) := by decide +kernel
theorem dX7_tellsSome_5 : decode cX7_tellsSome 5 = .ok (.bipush 8, 2) := by decide +kernel
theorem dX7_tellsSome_7 : decode cX7_tellsSome 7 = .ok (.if_icmp .ge 130, 3) := by decide +kernel
theorem dX7_tellsSome_10 : decode cX7_tellsSome 10 = .ok (.iload 5, 2) := by decide +kernel
theorem dX7_tellsSome_12 : decode cX7_tellsSome 12 = .ok (.iconst 2, 1) := by decide +kernel
theorem dX7_tellsSome_13 : decode cX7_tellsSome 13 = .ok (.irem, 1) := by decide +kernel
theorem dX7_tellsSome_14 : decode cX7_tellsSome 14 = .ok (.istore 6, 2) := by decide +kernel
theorem dX7_tellsSome_16 : decode cX7_tellsSome 16 = .ok (.iload 5, 2) := by decide +kernel
theorem dX7_tellsSome_18 : decode cX7_tellsSome 18 = .ok (.iconst 2, 1) := by decide +kernel
theorem dX7_tellsSome_19 : decode cX7_tellsSome 19 = .ok (.idiv, 1) := by decide +kernel
theorem dX7_tellsSome_20 : decode cX7_tellsSome 20 = .ok (.istore 7, 2) := by decide +kernel
theorem dX7_tellsSome_22 : decode cX7_tellsSome 22 = .ok (.iload_n 3, 1) := by decide +kernel
theorem dX7_tellsSome_23 : decode cX7_tellsSome 23 = .ok (.iload 6, 2) := by decide +kernel
theorem dX7_tellsSome_25 : decode cX7_tellsSome 25 = .ok (.isub, 1) := by decide +kernel
theorem dX7_tellsSome_26 : decode cX7_tellsSome 26 = .ok (.iconst 0, 1) := by decide +kernel
theorem dX7_tellsSome_27 : decode cX7_tellsSome 27 = .ok (.iconst 1, 1) := by decide +kernel
theorem dX7_tellsSome_28 : decode cX7_tellsSome 28 = .ok (.invokestatic 49, 3) := by decide +kernel
theorem dX7_tellsSome_31 : decode cX7_tellsSome 31 = .ok (.ifCond .eq 100, 3) := by decide +kernel
theorem dX7_tellsSome_34 : decode cX7_tellsSome 34 = .ok (.iload 4, 2) := by decide +kernel
theorem dX7_tellsSome_36 : decode cX7_tellsSome 36 = .ok (.iload 7, 2) := by decide +kernel
theorem dX7_tellsSome_38 : decode cX7_tellsSome 38 = .ok (.isub, 1) := by decide +kernel
theorem dX7_tellsSome_39 : decode cX7_tellsSome 39 = .ok (.iconst 0, 1) := by decide +kernel
theorem dX7_tellsSome_40 : decode cX7_tellsSome 40 = .ok (.iconst 3, 1) := by decide +kernel
theorem dX7_tellsSome_41 : decode cX7_tellsSome 41 = .ok (.invokestatic 49, 3) := by decide +kernel
theorem dX7_tellsSome_44 : decode cX7_tellsSome 44 = .ok (.ifCond .eq 87, 3) := by decide +kernel
theorem dX7_tellsSome_47 : decode cX7_tellsSome 47 = .ok (.aload_n 0, 1) := by decide +kernel
theorem dX7_tellsSome_48 : decode cX7_tellsSome 48 = .ok (.getfield 26, 3) := by decide +kernel
theorem dX7_tellsSome_51 : decode cX7_tellsSome 51 = .ok (.iload_n 1, 1) := by decide +kernel
theorem dX7_tellsSome_52 : decode cX7_tellsSome 52 = .ok (.iload_n 2, 1) := by decide +kernel
theorem dX7_tellsSome_53 : decode cX7_tellsSome 53 = .ok (.iload 6, 2) := by decide +kernel
theorem dX7_tellsSome_55 : decode cX7_tellsSome 55 = .ok (.iload_n 3, 1) := by decide +kernel
theorem dX7_tellsSome_56 : decode cX7_tellsSome 56 = .ok (.iload 6, 2) := by decide +kernel
theorem dX7_tellsSome_58 : decode cX7_tellsSome 58 = .ok (.isub, 1) := by decide +kernel
theorem dX7_tellsSome_59 : decode cX7_tellsSome 59 = .ok (.iload 7, 2) := by decide +kernel
theorem dX7_tellsSome_61 : decode cX7_tellsSome 61 = .ok (.iload 4, 2) := by decide +kernel
theorem dX7_tellsSome_63 : decode cX7_tellsSome 63 = .ok (.iload 7, 2) := by decide +kernel
theorem dX7_tellsSome_65 : decode cX7_tellsSome 65 = .ok (.isub, 1) := by decide +kernel
theorem dX7_tellsSome_66 : decode cX7_tellsSome 66 = .ok (.invokestatic 92, 3) := by decide +kernel
theorem dX7_tellsSome_69 : decode cX7_tellsSome 69 = .ok (.aload_n 0, 1) := by decide +kernel
theorem dX7_tellsSome_70 : decode cX7_tellsSome 70 = .ok (.iload_n 1, 1) := by decide +kernel
theorem dX7_tellsSome_71 : decode cX7_tellsSome 71 = .ok (.iload_n 2, 1) := by decide +kernel
theorem dX7_tellsSome_72 : decode cX7_tellsSome 72 = .ok (.iload 6, 2) := by decide +kernel
theorem dX7_tellsSome_74 : decode cX7_tellsSome 74 = .ok (.iload_n 3, 1) := by decide +kernel
theorem dX7_tellsSome_75 : decode cX7_tellsSome 75 = .ok (.iload 6, 2) := by decide +kernel
theorem dX7_tellsSome_77 : decode cX7_tellsSome 77 = .ok (.isub, 1) := by decide +kernel
theorem dX7_tellsSome_78 : decode cX7_tellsSome 78 = .ok (.iload 7, 2) := by decide +kernel
theorem dX7_tellsSome_80 : decode cX7_tellsSome 80 = .ok (.iload 4, 2) := by decide +kernel
theorem dX7_tellsSome_82 : decode cX7_tellsSome 82 = .ok (.iload 7, 2) := by decide +kernel
theorem dX7_tellsSome_84 : decode cX7_tellsSome 84 = .ok (.isub, 1) := by decide +kernel
theorem dX7_tellsSome_85 : decode cX7_tellsSome 85 = .ok (.invokevirtual 106, 3) := by decide +kernel
theorem dX7_tellsSome_88 : decode cX7_tellsSome 88 = .ok (.iastore, 1) := by decide +kernel
theorem dX7_tellsSome_89 : decode cX7_tellsSome 89 = .ok (.aload_n 0, 1) := by decide +kernel
theorem dX7_tellsSome_90 : decode cX7_tellsSome 90 = .ok (.getfield 26, 3) := by decide +kernel
theorem dX7_tellsSome_93 : decode cX7_tellsSome 93 = .ok (.iload_n 2, 1) := by decide +kernel
theorem dX7_tellsSome_94 : decode cX7_tellsSome 94 = .ok (.iload_n 1, 1) := by decide +kernel
theorem dX7_tellsSome_95 : decode cX7_tellsSome 95 = .ok (.iload_n 3, 1) := by decide +kernel
theorem dX7_tellsSome_96 : decode cX7_tellsSome 96 = .ok (.iload 6, 2) := by decide +kernel
theorem dX7_tellsSome_98 : decode cX7_tellsSome 98 = .ok (.isub, 1) := by decide +kernel
theorem dX7_tellsSome_99 : decode cX7_tellsSome 99 = .ok (.iload 6, 2) := by decide +kernel
theorem dX7_tellsSome_101 : decode cX7_tellsSome 101 = .ok (.iload 4, 2) := by decide +kernel
theorem dX7_tellsSome_103 : decode cX7_tellsSome 103 = .ok (.iload 7, 2) := by decide +kernel
theorem dX7_tellsSome_105 : decode cX7_tellsSome 105 = .ok (.isub, 1) := by decide +kernel
theorem dX7_tellsSome_106 : decode cX7_tellsSome 106 = .ok (.iload 7, 2) := by decide +kernel
theorem dX7_tellsSome_108 : decode cX7_tellsSome 108 = .ok (.invokestatic 92, 3) := by decide +kernel
theorem dX7_tellsSome_111 : decode cX7_tellsSome 111 = .ok (.aload_n 0, 1) := by decide +kernel
theorem dX7_tellsSome_112 : decode cX7_tellsSome 112 = .ok (.iload_n 2, 1) := by decide +kernel
theorem dX7_tellsSome_113 : decode cX7_tellsSome 113 = .ok (.iload_n 1, 1) := by decide +kernel
theorem dX7_tellsSome_114 : decode cX7_tellsSome 114 = .ok (.iload_n 3, 1) := by decide +kernel
theorem dX7_tellsSome_115 : decode cX7_tellsSome 115 = .ok (.iload 6, 2) := by decide +kernel
theorem dX7_tellsSome_117 : decode cX7_tellsSome 117 = .ok (.isub, 1) := by decide +kernel
theorem dX7_tellsSome_118 : decode cX7_tellsSome 118 = .ok (.iload 6, 2) := by decide +kernel
theorem dX7_tellsSome_120 : decode cX7_tellsSome 120 = .ok (.iload 4, 2) := by decide +kernel
theorem dX7_tellsSome_122 : decode cX7_tellsSome 122 = .ok (.iload 7, 2) := by decide +kernel
theorem dX7_tellsSome_124 : decode cX7_tellsSome 124 = .ok (.isub, 1) := by decide +kernel
theorem dX7_tellsSome_125 : decode cX7_tellsSome 125 = .ok (.iload 7, 2) := by decide +kernel
theorem dX7_tellsSome_127 : decode cX7_tellsSome 127 = .ok (.invokevirtual 106, 3) := by decide +kernel
theorem dX7_tellsSome_130 : decode cX7_tellsSome 130 = .ok (.iastore, 1) := by decide +kernel
theorem dX7_tellsSome_131 : decode cX7_tellsSome 131 = .ok (.iinc 5 1, 3) := by decide +kernel
theorem dX7_tellsSome_134 : decode cX7_tellsSome 134 = .ok (.goto (-131), 3) := by decide +kernel
theorem dX7_tellsSome_137 : decode cX7_tellsSome 137 = .ok (.return_, 1) := by decide +kernel
theorem dX7_tells_0 : decode cX7_tells 0 = .ok (.aload_n 0, 1) := by decide +kernel
theorem dX7_tells_1 : decode cX7_tells 1 = .ok (.getfield 109, 3) := by decide +kernel
theorem dX7_tells_4 : decode cX7_tells 4 = .ok (.ifCond .eq 7, 3) := by decide +kernel
theorem dX7_tells_7 : decode cX7_tells 7 = .ok (.iconst (-1), 1) := by decide +kernel
theorem dX7_tells_8 : decode cX7_tells 8 = .ok (.goto 11, 3) := by decide +kernel
theorem dX7_tells_11 : decode cX7_tells 11 = .ok (.iconst 2, 1) := by decide +kernel
theorem dX7_tells_12 : decode cX7_tells 12 = .ok (.aload_n 0, 1) := by decide +kernel
theorem dX7_tells_13 : decode cX7_tells 13 = .ok (.getfield 7, 3) := by decide +kernel
theorem dX7_tells_16 : decode cX7_tells 16 = .ok (.iconst 2, 1) := by decide +kernel
theorem dX7_tells_17 : decode cX7_tells 17 = .ok (.iaload, 1) := by decide +kernel
theorem dX7_tells_18 : decode cX7_tells 18 = .ok (.imul, 1) := by decide +kernel
theorem dX7_tells_19 : decode cX7_tells 19 = .ok (.istore_n 1, 1) := by decide +kernel
theorem dX7_tells_20 : decode cX7_tells 20 = .ok (.iload_n 1, 1) := by decide +kernel
theorem dX7_tells_21 : decode cX7_tells 21 = .ok (.ifCond .lt 60, 3) := by decide +kernel
theorem dX7_tells_24 : decode cX7_tells 24 = .ok (.iconst 0, 1) := by decide +kernel
theorem dX7_tells_25 : decode cX7_tells 25 = .ok (.istore_n 2, 1) := by decide +kernel
theorem dX7_tells_26 : decode cX7_tells 26 = .ok (.iload_n 2, 1) := by decide +kernel
theorem dX7_tells_27 : decode cX7_tells 27 = .ok (.aload_n 0, 1) := by decide +kernel
theorem dX7_tells_28 : decode cX7_tells 28 = .ok (.getfield 7, 3) := by decide +kernel
theorem dX7_tells_31 : decode cX7_tells 31 = .ok (.iconst 2, 1) := by decide +kernel
theorem dX7_tells_32 : decode cX7_tells 32 = .ok (.iaload, 1) := by decide +kernel
theorem dX7_tells_33 : decode cX7_tells 33 = .ok (.if_icmp .gt 42, 3) := by decide +kernel
theorem dX7_tells_36 : decode cX7_tells 36 = .ok (.iload_n 1, 1) := by decide +kernel
theorem dX7_tells_37 : decode cX7_tells 37 = .ok (.iload_n 2, 1) := by decide +kernel
theorem dX7_tells_38 : decode cX7_tells 38 = .ok (.isub, 1) := by decide +kernel
theorem dX7_tells_39 : decode cX7_tells 39 = .ok (.istore_n 3, 1) := by decide +kernel
theorem dX7_tells_40 : decode cX7_tells 40 = .ok (.iload_n 3, 1) := by decide +kernel
theorem dX7_tells_41 : decode cX7_tells 41 = .ok (.iload_n 2, 1) := by decide +kernel
theorem dX7_tells_42 : decode cX7_tells 42 = .ok (.aload_n 0, 1) := by decide +kernel
theorem dX7_tells_43 : decode cX7_tells 43 = .ok (.getfield 7, 3) := by decide +kernel
theorem dX7_tells_46 : decode cX7_tells 46 = .ok (.iconst 2, 1) := by decide +kernel
theorem dX7_tells_47 : decode cX7_tells 47 = .ok (.iaload, 1) := by decide +kernel
theorem dX7_tells_48 : decode cX7_tells 48 = .ok (.invokestatic 49, 3) := by decide +kernel
theorem dX7_tells_51 : decode cX7_tells 51 = .ok (.ifCond .eq 18, 3) := by decide +kernel
theorem dX7_tells_54 : decode cX7_tells 54 = .ok (.iload_n 3, 1) := by decide +kernel
theorem dX7_tells_55 : decode cX7_tells 55 = .ok (.iload_n 2, 1) := by decide +kernel
theorem dX7_tells_56 : decode cX7_tells 56 = .ok (.if_icmp .gt 7, 3) := by decide +kernel
theorem dX7_tells_59 : decode cX7_tells 59 = .ok (.iload_n 2, 1) := by decide +kernel
theorem dX7_tells_60 : decode cX7_tells 60 = .ok (.ifCond .ne 9, 3) := by decide +kernel
theorem dX7_tells_63 : decode cX7_tells 63 = .ok (.aload_n 0, 1) := by decide +kernel
theorem dX7_tells_64 : decode cX7_tells 64 = .ok (.iload_n 2, 1) := by decide +kernel
theorem dX7_tells_65 : decode cX7_tells 65 = .ok (.iload_n 3, 1) := by decide +kernel
theorem dX7_tells_66 : decode cX7_tells 66 = .ok (.invokevirtual 112, 3) := by decide +kernel
theorem dX7_tells_69 : decode cX7_tells 69 = .ok (.iinc 2 1, 3) := by decide +kernel
theorem dX7_tells_72 : decode cX7_tells 72 = .ok (.goto (-46), 3) := by decide +kernel
theorem dX7_tells_75 : decode cX7_tells 75 = .ok (.iinc 1 (-1), 3) := by decide +kernel
theorem dX7_tells_78 : decode cX7_tells 78 = .ok (.goto (-58), 3) := by decide +kernel
theorem dX7_tells_81 : decode cX7_tells 81 = .ok (.aload_n 0, 1) := by decide +kernel
theorem dX7_tells_82 : decode cX7_tells 82 = .ok (.iconst 1, 1) := by decide +kernel
theorem dX7_tells_83 : decode cX7_tells 83 = .ok (.putfield 109, 3) := by decide +kernel
theorem dX7_tells_86 : decode cX7_tells 86 = .ok (.return_, 1) := by decide +kernel
theorem dX7_worthNow_0 : decode cX7_worthNow 0 = .ok (.aload_n 0, 1) := by decide +kernel
theorem dX7_worthNow_1 : decode cX7_worthNow 1 = .ok (.invokevirtual 116, 3) := by decide +kernel
theorem dX7_worthNow_4 : decode cX7_worthNow 4 = .ok (.ifCond .eq 7, 3) := by decide +kernel
theorem dX7_worthNow_7 : decode cX7_worthNow 7 = .ok (.sipush (-500), 3) := by decide +kernel
theorem dX7_worthNow_10 : decode cX7_worthNow 10 = .ok (.ireturn, 1) := by decide +kernel
theorem dX7_worthNow_11 : decode cX7_worthNow 11 = .ok (.aload_n 0, 1) := by decide +kernel
theorem dX7_worthNow_12 : decode cX7_worthNow 12 = .ok (.invokevirtual 120, 3) := by decide +kernel
theorem dX7_worthNow_15 : decode cX7_worthNow 15 = .ok (.aload_n 0, 1) := by decide +kernel
theorem dX7_worthNow_16 : decode cX7_worthNow 16 = .ok (.getfield 7, 3) := by decide +kernel
theorem dX7_worthNow_19 : decode cX7_worthNow 19 = .ok (.bipush 17, 2) := by decide +kernel
theorem dX7_worthNow_21 : decode cX7_worthNow 21 = .ok (.iaload, 1) := by decide +kernel
theorem dX7_worthNow_22 : decode cX7_worthNow 22 = .ok (.istore_n 1, 1) := by decide +kernel
theorem dX7_worthNow_23 : decode cX7_worthNow 23 = .ok (.aload_n 0, 1) := by decide +kernel
theorem dX7_worthNow_24 : decode cX7_worthNow 24 = .ok (.getfield 26, 3) := by decide +kernel
theorem dX7_worthNow_27 : decode cX7_worthNow 27 = .ok (.aload_n 0, 1) := by decide +kernel
theorem dX7_worthNow_28 : decode cX7_worthNow 28 = .ok (.iload_n 1, 1) := by decide +kernel
theorem dX7_worthNow_29 : decode cX7_worthNow 29 = .ok (.iconst 0, 1) := by decide +kernel
theorem dX7_worthNow_30 : decode cX7_worthNow 30 = .ok (.invokevirtual 123, 3) := by decide +kernel
theorem dX7_worthNow_33 : decode cX7_worthNow 33 = .ok (.aload_n 0, 1) := by decide +kernel
theorem dX7_worthNow_34 : decode cX7_worthNow 34 = .ok (.iconst 1, 1) := by decide +kernel
theorem dX7_worthNow_35 : decode cX7_worthNow 35 = .ok (.iload_n 1, 1) := by decide +kernel
theorem dX7_worthNow_36 : decode cX7_worthNow 36 = .ok (.isub, 1) := by decide +kernel
theorem dX7_worthNow_37 : decode cX7_worthNow 37 = .ok (.iconst 0, 1) := by decide +kernel
theorem dX7_worthNow_38 : decode cX7_worthNow 38 = .ok (.invokevirtual 123, 3) := by decide +kernel
theorem dX7_worthNow_41 : decode cX7_worthNow 41 = .ok (.aload_n 0, 1) := by decide +kernel
theorem dX7_worthNow_42 : decode cX7_worthNow 42 = .ok (.iload_n 1, 1) := by decide +kernel
theorem dX7_worthNow_43 : decode cX7_worthNow 43 = .ok (.iconst 1, 1) := by decide +kernel
theorem dX7_worthNow_44 : decode cX7_worthNow 44 = .ok (.invokevirtual 123, 3) := by decide +kernel
theorem dX7_worthNow_47 : decode cX7_worthNow 47 = .ok (.aload_n 0, 1) := by decide +kernel
theorem dX7_worthNow_48 : decode cX7_worthNow 48 = .ok (.iconst 1, 1) := by decide +kernel
theorem dX7_worthNow_49 : decode cX7_worthNow 49 = .ok (.iload_n 1, 1) := by decide +kernel
theorem dX7_worthNow_50 : decode cX7_worthNow 50 = .ok (.isub, 1) := by decide +kernel
theorem dX7_worthNow_51 : decode cX7_worthNow 51 = .ok (.iconst 1, 1) := by decide +kernel
theorem dX7_worthNow_52 : decode cX7_worthNow 52 = .ok (.invokevirtual 123, 3) := by decide +kernel
theorem dX7_worthNow_55 : decode cX7_worthNow 55 = .ok (.aload_n 0, 1) := by decide +kernel
theorem dX7_worthNow_56 : decode cX7_worthNow 56 = .ok (.iload_n 1, 1) := by decide +kernel
theorem dX7_worthNow_57 : decode cX7_worthNow 57 = .ok (.iconst 2, 1) := by decide +kernel
theorem dX7_worthNow_58 : decode cX7_worthNow 58 = .ok (.invokevirtual 123, 3) := by decide +kernel
theorem dX7_worthNow_61 : decode cX7_worthNow 61 = .ok (.aload_n 0, 1) := by decide +kernel
theorem dX7_worthNow_62 : decode cX7_worthNow 62 = .ok (.iconst 1, 1) := by decide +kernel
theorem dX7_worthNow_63 : decode cX7_worthNow 63 = .ok (.iload_n 1, 1) := by decide +kernel
theorem dX7_worthNow_64 : decode cX7_worthNow 64 = .ok (.isub, 1) := by decide +kernel
theorem dX7_worthNow_65 : decode cX7_worthNow 65 = .ok (.iconst 2, 1) := by decide +kernel
theorem dX7_worthNow_66 : decode cX7_worthNow 66 = .ok (.invokevirtual 123, 3) := by decide +kernel
theorem dX7_worthNow_69 : decode cX7_worthNow 69 = .ok (.invokestatic 92, 3) := by decide +kernel
theorem dX7_worthNow_72 : decode cX7_worthNow 72 = .ok (.iaload, 1) := by decide +kernel
theorem dX7_worthNow_73 : decode cX7_worthNow 73 = .ok (.ireturn, 1) := by decide +kernel
theorem dX7_worthOfTurn_0 : decode cX7_worthOfTurn 0 = .ok (.aload_n 0, 1) := by decide +kernel
theorem dX7_worthOfTurn_1 : decode cX7_worthOfTurn 1 = .ok (.invokevirtual 120, 3) := by decide +kernel
theorem dX7_worthOfTurn_4 : decode cX7_worthOfTurn 4 = .ok (.aload_n 0, 1) := by decide +kernel
theorem dX7_worthOfTurn_5 : decode cX7_worthOfTurn 5 = .ok (.getfield 7, 3) := by decide +kernel
theorem dX7_worthOfTurn_8 : decode cX7_worthOfTurn 8 = .ok (.bipush 17, 2) := by decide +kernel
theorem dX7_worthOfTurn_10 : decode cX7_worthOfTurn 10 = .ok (.iaload, 1) := by decide +kernel
theorem dX7_worthOfTurn_11 : decode cX7_worthOfTurn 11 = .ok (.istore_n 2, 1) := by decide +kernel
theorem dX7_worthOfTurn_12 : decode cX7_worthOfTurn 12 = .ok (.aload_n 0, 1) := by decide +kernel
theorem dX7_worthOfTurn_13 : decode cX7_worthOfTurn 13 = .ok (.iload_n 2, 1) := by decide +kernel
theorem dX7_worthOfTurn_14 : decode cX7_worthOfTurn 14 = .ok (.iconst 0, 1) := by decide +kernel
theorem dX7_worthOfTurn_15 : decode cX7_worthOfTurn 15 = .ok (.invokevirtual 123, 3) := by decide +kernel
theorem dX7_worthOfTurn_18 : decode cX7_worthOfTurn 18 = .ok (.istore_n 3, 1) := by decide +kernel
theorem dX7_worthOfTurn_19 : decode cX7_worthOfTurn 19 = .ok (.aload_n 0, 1) := by decide +kernel
theorem dX7_worthOfTurn_20 : decode cX7_worthOfTurn 20 = .ok (.iconst 1, 1) := by decide +kernel
theorem dX7_worthOfTurn_21 : decode cX7_worthOfTurn 21 = .ok (.iload_n 2, 1) := by decide +kernel
theorem dX7_worthOfTurn_22 : decode cX7_worthOfTurn 22 = .ok (.isub, 1) := by decide +kernel
theorem dX7_worthOfTurn_23 : decode cX7_worthOfTurn 23 = .ok (.iconst 0, 1) := by decide +kernel
theorem dX7_worthOfTurn_24 : decode cX7_worthOfTurn 24 = .ok (.invokevirtual 123, 3) := by decide +kernel
theorem dX7_worthOfTurn_27 : decode cX7_worthOfTurn 27 = .ok (.istore 4, 2) := by decide +kernel
theorem dX7_worthOfTurn_29 : decode cX7_worthOfTurn 29 = .ok (.iload_n 1, 1) := by decide +kernel
theorem dX7_worthOfTurn_30 : decode cX7_worthOfTurn 30 = .ok (.iconst 5, 1) := by decide +kernel
theorem dX7_worthOfTurn_31 : decode cX7_worthOfTurn 31 = .ok (.if_icmp .ne 27, 3) := by decide +kernel
theorem dX7_worthOfTurn_34 : decode cX7_worthOfTurn 34 = .ok (.aload_n 0, 1) := by decide +kernel
theorem dX7_worthOfTurn_35 : decode cX7_worthOfTurn 35 = .ok (.iload_n 3, 1) := by decide +kernel
theorem dX7_worthOfTurn_36 : decode cX7_worthOfTurn 36 = .ok (.iload 4, 2) := by decide +kernel
theorem dX7_worthOfTurn_38 : decode cX7_worthOfTurn 38 = .ok (.aload_n 0, 1) := by decide +kernel
theorem dX7_worthOfTurn_39 : decode cX7_worthOfTurn 39 = .ok (.iconst 1, 1) := by decide +kernel
theorem dX7_worthOfTurn_40 : decode cX7_worthOfTurn 40 = .ok (.iload_n 2, 1) := by decide +kernel
theorem dX7_worthOfTurn_41 : decode cX7_worthOfTurn 41 = .ok (.isub, 1) := by decide +kernel
theorem dX7_worthOfTurn_42 : decode cX7_worthOfTurn 42 = .ok (.iconst 1, 1) := by decide +kernel
theorem dX7_worthOfTurn_43 : decode cX7_worthOfTurn 43 = .ok (.invokevirtual 123, 3) := by decide +kernel
theorem dX7_worthOfTurn_46 : decode cX7_worthOfTurn 46 = .ok (.aload_n 0, 1) := by decide +kernel
theorem dX7_worthOfTurn_47 : decode cX7_worthOfTurn 47 = .ok (.iconst 1, 1) := by decide +kernel
theorem dX7_worthOfTurn_48 : decode cX7_worthOfTurn 48 = .ok (.iload_n 2, 1) := by decide +kernel
theorem dX7_worthOfTurn_49 : decode cX7_worthOfTurn 49 = .ok (.isub, 1) := by decide +kernel
theorem dX7_worthOfTurn_50 : decode cX7_worthOfTurn 50 = .ok (.iconst 2, 1) := by decide +kernel
theorem dX7_worthOfTurn_51 : decode cX7_worthOfTurn 51 = .ok (.invokevirtual 123, 3) := by decide +kernel
theorem dX7_worthOfTurn_54 : decode cX7_worthOfTurn 54 = .ok (.invokevirtual 99, 3) := by decide +kernel
theorem dX7_worthOfTurn_57 : decode cX7_worthOfTurn 57 = .ok (.ireturn, 1) := by decide +kernel
theorem dX7_worthOfTurn_58 : decode cX7_worthOfTurn 58 = .ok (.aload_n 0, 1) := by decide +kernel
theorem dX7_worthOfTurn_59 : decode cX7_worthOfTurn 59 = .ok (.iload_n 3, 1) := by decide +kernel
theorem dX7_worthOfTurn_60 : decode cX7_worthOfTurn 60 = .ok (.iload 4, 2) := by decide +kernel
theorem dX7_worthOfTurn_62 : decode cX7_worthOfTurn 62 = .ok (.aload_n 0, 1) := by decide +kernel
theorem dX7_worthOfTurn_63 : decode cX7_worthOfTurn 63 = .ok (.iload_n 2, 1) := by decide +kernel
theorem dX7_worthOfTurn_64 : decode cX7_worthOfTurn 64 = .ok (.iconst 1, 1) := by decide +kernel
theorem dX7_worthOfTurn_65 : decode cX7_worthOfTurn 65 = .ok (.invokevirtual 123, 3) := by decide +kernel
theorem dX7_worthOfTurn_68 : decode cX7_worthOfTurn 68 = .ok (.aload_n 0, 1) := by decide +kernel
theorem dX7_worthOfTurn_69 : decode cX7_worthOfTurn 69 = .ok (.iconst 1, 1) := by decide +kernel
theorem dX7_worthOfTurn_70 : decode cX7_worthOfTurn 70 = .ok (.iload_n 2, 1) := by decide +kernel
theorem dX7_worthOfTurn_71 : decode cX7_worthOfTurn 71 = .ok (.isub, 1) := by decide +kernel
theorem dX7_worthOfTurn_72 : decode cX7_worthOfTurn 72 = .ok (.iconst 1, 1) := by decide +kernel
theorem dX7_worthOfTurn_73 : decode cX7_worthOfTurn 73 = .ok (.invokevirtual 123, 3) := by decide +kernel
theorem dX7_worthOfTurn_76 : decode cX7_worthOfTurn 76 = .ok (.aload_n 0, 1) := by decide +kernel
theorem dX7_worthOfTurn_77 : decode cX7_worthOfTurn 77 = .ok (.iconst 1, 1) := by decide +kernel
theorem dX7_worthOfTurn_78 : decode cX7_worthOfTurn 78 = .ok (.iload_n 2, 1) := by decide +kernel
theorem dX7_worthOfTurn_79 : decode cX7_worthOfTurn 79 = .ok (.isub, 1) := by decide +kernel
theorem dX7_worthOfTurn_80 : decode cX7_worthOfTurn 80 = .ok (.iconst 2, 1) := by decide +kernel
theorem dX7_worthOfTurn_81 : decode cX7_worthOfTurn 81 = .ok (.invokevirtual 123, 3) := by decide +kernel
theorem dX7_worthOfTurn_84 : decode cX7_worthOfTurn 84 = .ok (.iload_n 1, 1) := by decide +kernel
theorem dX7_worthOfTurn_85 : decode cX7_worthOfTurn 85 = .ok (.invokevirtual 96, 3) := by decide +kernel
theorem dX7_worthOfTurn_88 : decode cX7_worthOfTurn 88 = .ok (.ireturn, 1) := by decide +kernel
theorem dX7_bestNow_0 : decode cX7_bestNow 0 = .ok (.aload_n 0, 1) := by decide +kernel
theorem dX7_bestNow_1 : decode cX7_bestNow 1 = .ok (.getfield 7, 3) := by decide +kernel
theorem dX7_bestNow_4 : decode cX7_bestNow 4 = .ok (.bipush 17, 2) := by decide +kernel
theorem dX7_bestNow_6 : decode cX7_bestNow 6 = .ok (.iaload, 1) := by decide +kernel
theorem dX7_bestNow_7 : decode cX7_bestNow 7 = .ok (.istore_n 1, 1) := by decide +kernel
theorem dX7_bestNow_8 : decode cX7_bestNow 8 = .ok (.aload_n 0, 1) := by decide +kernel
theorem dX7_bestNow_9 : decode cX7_bestNow 9 = .ok (.iload_n 1, 1) := by decide +kernel
theorem dX7_bestNow_10 : decode cX7_bestNow 10 = .ok (.iconst 2, 1) := by decide +kernel
theorem dX7_bestNow_11 : decode cX7_bestNow 11 = .ok (.invokevirtual 123, 3) := by decide +kernel
theorem dX7_bestNow_14 : decode cX7_bestNow 14 = .ok (.ifCond .le 5, 3) := by decide +kernel
theorem dX7_bestNow_17 : decode cX7_bestNow 17 = .ok (.iconst 0, 1) := by decide +kernel
theorem dX7_bestNow_18 : decode cX7_bestNow 18 = .ok (.ireturn, 1) := by decide +kernel
theorem dX7_bestNow_19 : decode cX7_bestNow 19 = .ok (.iconst 1, 1) := by decide +kernel
theorem dX7_bestNow_20 : decode cX7_bestNow 20 = .ok (.istore_n 2, 1) := by decide +kernel

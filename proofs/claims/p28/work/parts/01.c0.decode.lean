theorem dX0_init_0 : decode cX0_init 0 = .ok (.aload_n 0, 1) := by decide +kernel
theorem dX0_init_1 : decode cX0_init 1 = .ok (.invokespecial 1, 3) := by decide +kernel
theorem dX0_init_4 : decode cX0_init 4 = .ok (.aload_n 0, 1) := by decide +kernel
theorem dX0_init_5 : decode cX0_init 5 = .ok (.iconst 4, 1) := by decide +kernel
theorem dX0_init_6 : decode cX0_init 6 = .ok (.anewarray 9, 3) := by decide +kernel
theorem dX0_init_9 : decode cX0_init 9 = .ok (.putfield 11, 3) := by decide +kernel
theorem dX0_init_12 : decode cX0_init 12 = .ok (.aload_n 0, 1) := by decide +kernel
theorem dX0_init_13 : decode cX0_init 13 = .ok (.iconst 0, 1) := by decide +kernel
theorem dX0_init_14 : decode cX0_init 14 = .ok (.putfield 15, 3) := by decide +kernel
theorem dX0_init_17 : decode cX0_init 17 = .ok (.aload_n 0, 1) := by decide +kernel
theorem dX0_init_18 : decode cX0_init 18 = .ok (.iconst 0, 1) := by decide +kernel
theorem dX0_init_19 : decode cX0_init 19 = .ok (.putfield 19, 3) := by decide +kernel
theorem dX0_init_22 : decode cX0_init 22 = .ok (.iconst 0, 1) := by decide +kernel
theorem dX0_init_23 : decode cX0_init 23 = .ok (.istore_n 1, 1) := by decide +kernel
theorem dX0_init_24 : decode cX0_init 24 = .ok (.iload_n 1, 1) := by decide +kernel
theorem dX0_init_25 : decode cX0_init 25 = .ok (.aload_n 0, 1) := by decide +kernel
theorem dX0_init_26 : decode cX0_init 26 = .ok (.getfield 11, 3) := by decide +kernel
theorem dX0_init_29 : decode cX0_init 29 = .ok (.arraylength, 1) := by decide +kernel
theorem dX0_init_30 : decode cX0_init 30 = .ok (.if_icmp .ge 22, 3) := by decide +kernel
theorem dX0_init_33 : decode cX0_init 33 = .ok (.aload_n 0, 1) := by decide +kernel
theorem dX0_init_34 : decode cX0_init 34 = .ok (.getfield 11, 3) := by decide +kernel
theorem dX0_init_37 : decode cX0_init 37 = .ok (.iload_n 1, 1) := by decide +kernel
theorem dX0_init_38 : decode cX0_init 38 = .ok (.new 9, 3) := by decide +kernel
theorem dX0_init_41 : decode cX0_init 41 = .ok (.dup, 1) := by decide +kernel
theorem dX0_init_42 : decode cX0_init 42 = .ok (.invokespecial 22, 3) := by decide +kernel
theorem dX0_init_45 : decode cX0_init 45 = .ok (.aastore, 1) := by decide +kernel
theorem dX0_init_46 : decode cX0_init 46 = .ok (.iinc 1 1, 3) := by decide +kernel
theorem dX0_init_49 : decode cX0_init 49 = .ok (.goto (-25), 3) := by decide +kernel
theorem dX0_init_52 : decode cX0_init 52 = .ok (.return_, 1) := by decide +kernel
theorem dX0_row_0 : decode cX0_row 0 = .ok (.aload_n 0, 1) := by decide +kernel
theorem dX0_row_1 : decode cX0_row 1 = .ok (.getfield 15, 3) := by decide +kernel
theorem dX0_row_4 : decode cX0_row 4 = .ok (.iload_n 1, 1) := by decide +kernel
theorem dX0_row_5 : decode cX0_row 5 = .ok (.iadd, 1) := by decide +kernel
theorem dX0_row_6 : decode cX0_row 6 = .ok (.iconst 4, 1) := by decide +kernel
theorem dX0_row_7 : decode cX0_row 7 = .ok (.invokestatic 23, 3) := by decide +kernel
theorem dX0_row_10 : decode cX0_row 10 = .ok (.istore_n 2, 1) := by decide +kernel
theorem dX0_row_11 : decode cX0_row 11 = .ok (.iload_n 2, 1) := by decide +kernel
theorem dX0_row_12 : decode cX0_row 12 = .ok (.ifCond .lt 21, 3) := by decide +kernel
theorem dX0_row_15 : decode cX0_row 15 = .ok (.iload_n 2, 1) := by decide +kernel
theorem dX0_row_16 : decode cX0_row 16 = .ok (.aload_n 0, 1) := by decide +kernel
theorem dX0_row_17 : decode cX0_row 17 = .ok (.getfield 11, 3) := by decide +kernel
theorem dX0_row_20 : decode cX0_row 20 = .ok (.arraylength, 1) := by decide +kernel
theorem dX0_row_21 : decode cX0_row 21 = .ok (.if_icmp .ge 12, 3) := by decide +kernel
theorem dX0_row_24 : decode cX0_row 24 = .ok (.aload_n 0, 1) := by decide +kernel
theorem dX0_row_25 : decode cX0_row 25 = .ok (.getfield 11, 3) := by decide +kernel
theorem dX0_row_28 : decode cX0_row 28 = .ok (.iload_n 2, 1) := by decide +kernel
theorem dX0_row_29 : decode cX0_row 29 = .ok (.aaload, 1) := by decide +kernel
theorem dX0_row_30 : decode cX0_row 30 = .ok (.goto 4, 3) := by decide +kernel
theorem dX0_row_33 : decode cX0_row 33 = .ok (.aconst_null, 1) := by decide +kernel
theorem dX0_row_34 : decode cX0_row 34 = .ok (.areturn, 1) := by decide +kernel
theorem dX0_record_0 : decode cX0_record 0 = .ok (.aload_n 0, 1) := by decide +kernel
theorem dX0_record_1 : decode cX0_record 1 = .ok (.getfield 19, 3) := by decide +kernel
theorem dX0_record_4 : decode cX0_record 4 = .ok (.iconst 4, 1) := by decide +kernel
theorem dX0_record_5 : decode cX0_record 5 = .ok (.if_icmp .ne 27, 3) := by decide +kernel
theorem dX0_record_8 : decode cX0_record 8 = .ok (.aload_n 0, 1) := by decide +kernel
theorem dX0_record_9 : decode cX0_record 9 = .ok (.aload_n 0, 1) := by decide +kernel
theorem dX0_record_10 : decode cX0_record 10 = .ok (.getfield 15, 3) := by decide +kernel
theorem dX0_record_13 : decode cX0_record 13 = .ok (.iconst 1, 1) := by decide +kernel
theorem dX0_record_14 : decode cX0_record 14 = .ok (.iadd, 1) := by decide +kernel
theorem dX0_record_15 : decode cX0_record 15 = .ok (.iconst 4, 1) := by decide +kernel
theorem dX0_record_16 : decode cX0_record 16 = .ok (.invokestatic 23, 3) := by decide +kernel
theorem dX0_record_19 : decode cX0_record 19 = .ok (.putfield 15, 3) := by decide +kernel
theorem dX0_record_22 : decode cX0_record 22 = .ok (.aload_n 0, 1) := by decide +kernel
theorem dX0_record_23 : decode cX0_record 23 = .ok (.dup, 1) := by decide +kernel
theorem dX0_record_24 : decode cX0_record 24 = .ok (.getfield 19, 3) := by decide +kernel
theorem dX0_record_27 : decode cX0_record 27 = .ok (.iconst 1, 1) := by decide +kernel
theorem dX0_record_28 : decode cX0_record 28 = .ok (.isub, 1) := by decide +kernel
theorem dX0_record_29 : decode cX0_record 29 = .ok (.putfield 19, 3) := by decide +kernel
theorem dX0_record_32 : decode cX0_record 32 = .ok (.aload_n 0, 1) := by decide +kernel
theorem dX0_record_33 : decode cX0_record 33 = .ok (.aload_n 0, 1) := by decide +kernel
theorem dX0_record_34 : decode cX0_record 34 = .ok (.getfield 19, 3) := by decide +kernel
theorem dX0_record_37 : decode cX0_record 37 = .ok (.invokevirtual 29, 3) := by decide +kernel
theorem dX0_record_40 : decode cX0_record 40 = .ok (.astore_n 2, 1) := by decide +kernel
theorem dX0_record_41 : decode cX0_record 41 = .ok (.aload_n 2, 1) := by decide +kernel
theorem dX0_record_42 : decode cX0_record 42 = .ok (.ifnull 18, 3) := by decide +kernel
theorem dX0_record_45 : decode cX0_record 45 = .ok (.aload_n 2, 1) := by decide +kernel
theorem dX0_record_46 : decode cX0_record 46 = .ok (.aload_n 1, 1) := by decide +kernel
theorem dX0_record_47 : decode cX0_record 47 = .ok (.invokevirtual 33, 3) := by decide +kernel
theorem dX0_record_50 : decode cX0_record 50 = .ok (.aload_n 0, 1) := by decide +kernel
theorem dX0_record_51 : decode cX0_record 51 = .ok (.dup, 1) := by decide +kernel
theorem dX0_record_52 : decode cX0_record 52 = .ok (.getfield 19, 3) := by decide +kernel
theorem dX0_record_55 : decode cX0_record 55 = .ok (.iconst 1, 1) := by decide +kernel
theorem dX0_record_56 : decode cX0_record 56 = .ok (.iadd, 1) := by decide +kernel
theorem dX0_record_57 : decode cX0_record 57 = .ok (.putfield 19, 3) := by decide +kernel
theorem dX0_record_60 : decode cX0_record 60 = .ok (.return_, 1) := by decide +kernel
theorem dX0_takeBack_0 : decode cX0_takeBack 0 = .ok (.aload_n 0, 1) := by decide +kernel
theorem dX0_takeBack_1 : decode cX0_takeBack 1 = .ok (.getfield 19, 3) := by decide +kernel
theorem dX0_takeBack_4 : decode cX0_takeBack 4 = .ok (.ifCond .le 16, 3) := by decide +kernel
theorem dX0_takeBack_7 : decode cX0_takeBack 7 = .ok (.aload_n 0, 1) := by decide +kernel
theorem dX0_takeBack_8 : decode cX0_takeBack 8 = .ok (.aload_n 0, 1) := by decide +kernel
theorem dX0_takeBack_9 : decode cX0_takeBack 9 = .ok (.getfield 19, 3) := by decide +kernel
theorem dX0_takeBack_12 : decode cX0_takeBack 12 = .ok (.iconst 1, 1) := by decide +kernel
theorem dX0_takeBack_13 : decode cX0_takeBack 13 = .ok (.isub, 1) := by decide +kernel
theorem dX0_takeBack_14 : decode cX0_takeBack 14 = .ok (.invokevirtual 29, 3) := by decide +kernel
theorem dX0_takeBack_17 : decode cX0_takeBack 17 = .ok (.goto 4, 3) := by decide +kernel
theorem dX0_takeBack_20 : decode cX0_takeBack 20 = .ok (.aconst_null, 1) := by decide +kernel
theorem dX0_takeBack_21 : decode cX0_takeBack 21 = .ok (.astore_n 2, 1) := by decide +kernel
theorem dX0_takeBack_22 : decode cX0_takeBack 22 = .ok (.aload_n 2, 1) := by decide +kernel
theorem dX0_takeBack_23 : decode cX0_takeBack 23 = .ok (.ifnonnull 5, 3) := by decide +kernel
theorem dX0_takeBack_26 : decode cX0_takeBack 26 = .ok (.iconst 0, 1) := by decide +kernel
theorem dX0_takeBack_27 : decode cX0_takeBack 27 = .ok (.ireturn, 1) := by decide +kernel
theorem dX0_takeBack_28 : decode cX0_takeBack 28 = .ok (.aload_n 1, 1) := by decide +kernel
theorem dX0_takeBack_29 : decode cX0_takeBack 29 = .ok (.aload_n 2, 1) := by decide +kernel
theorem dX0_takeBack_30 : decode cX0_takeBack 30 = .ok (.invokevirtual 33, 3) := by decide +kernel
theorem dX0_takeBack_33 : decode cX0_takeBack 33 = .ok (.aload_n 0, 1) := by decide +kernel
theorem dX0_takeBack_34 : decode cX0_takeBack 34 = .ok (.dup, 1) := by decide +kernel
theorem dX0_takeBack_35 : decode cX0_takeBack 35 = .ok (.getfield 19, 3) := by decide +kernel
theorem dX0_takeBack_38 : decode cX0_takeBack 38 = .ok (.iconst 1, 1) := by decide +kernel
theorem dX0_takeBack_39 : decode cX0_takeBack 39 = .ok (.isub, 1) := by decide +kernel
theorem dX0_takeBack_40 : decode cX0_takeBack 40 = .ok (.putfield 19, 3) := by decide +kernel
theorem dX0_takeBack_43 : decode cX0_takeBack 43 = .ok (.iconst 1, 1) := by decide +kernel
theorem dX0_takeBack_44 : decode cX0_takeBack 44 = .ok (.ireturn, 1) := by decide +kernel
theorem dX1_init_0 : decode cX1_init 0 = .ok (.aload_n 0, 1) := by decide +kernel
theorem dX1_init_1 : decode cX1_init 1 = .ok (.invokespecial 3, 3) := by decide +kernel
theorem dX1_init_4 : decode cX1_init 4 = .ok (.aload_n 0, 1) := by decide +kernel
theorem dX1_init_5 : decode cX1_init 5 = .ok (.bipush 60, 2) := by decide +kernel
theorem dX1_init_7 : decode cX1_init 7 = .ok (.newarray .int, 2) := by decide +kernel
theorem dX1_init_9 : decode cX1_init 9 = .ok (.putfield 11, 3) := by decide +kernel
theorem dX1_init_12 : decode cX1_init 12 = .ok (.aload_n 0, 1) := by decide +kernel
theorem dX1_init_13 : decode cX1_init 13 = .ok (.iconst 0, 1) := by decide +kernel
theorem dX1_init_14 : decode cX1_init 14 = .ok (.putfield 15, 3) := by decide +kernel
theorem dX1_init_17 : decode cX1_init 17 = .ok (.return_, 1) := by decide +kernel
theorem dX1_isFull_0 : decode cX1_isFull 0 = .ok (.aload_n 0, 1) := by decide +kernel
theorem dX1_isFull_1 : decode cX1_isFull 1 = .ok (.getfield 15, 3) := by decide +kernel
theorem dX1_isFull_4 : decode cX1_isFull 4 = .ok (.bipush 60, 2) := by decide +kernel
theorem dX1_isFull_6 : decode cX1_isFull 6 = .ok (.if_icmp .lt 7, 3) := by decide +kernel
theorem dX1_isFull_9 : decode cX1_isFull 9 = .ok (.iconst 1, 1) := by decide +kernel
theorem dX1_isFull_10 : decode cX1_isFull 10 = .ok (.goto 4, 3) := by decide +kernel
theorem dX1_isFull_13 : decode cX1_isFull 13 = .ok (.iconst 0, 1) := by decide +kernel
theorem dX1_isFull_14 : decode cX1_isFull 14 = .ok (.ireturn, 1) := by decide +kernel
theorem dX1_add_0 : decode cX1_add 0 = .ok (.aload_n 0, 1) := by decide +kernel
theorem dX1_add_1 : decode cX1_add 1 = .ok (.getfield 11, 3) := by decide +kernel
theorem dX1_add_4 : decode cX1_add 4 = .ok (.aload_n 0, 1) := by decide +kernel
theorem dX1_add_5 : decode cX1_add 5 = .ok (.getfield 15, 3) := by decide +kernel
theorem dX1_add_8 : decode cX1_add 8 = .ok (.iload_n 1, 1) := by decide +kernel
theorem dX1_add_9 : decode cX1_add 9 = .ok (.invokestatic 19, 3) := by decide +kernel
theorem dX1_add_12 : decode cX1_add 12 = .ok (.aload_n 0, 1) := by decide +kernel
theorem dX1_add_13 : decode cX1_add 13 = .ok (.dup, 1) := by decide +kernel
theorem dX1_add_14 : decode cX1_add 14 = .ok (.getfield 15, 3) := by decide +kernel
theorem dX1_add_17 : decode cX1_add 17 = .ok (.iconst 1, 1) := by decide +kernel
theorem dX1_add_18 : decode cX1_add 18 = .ok (.iadd, 1) := by decide +kernel
theorem dX1_add_19 : decode cX1_add 19 = .ok (.putfield 15, 3) := by decide +kernel
theorem dX1_add_22 : decode cX1_add 22 = .ok (.aload_n 0, 1) := by decide +kernel
theorem dX1_add_23 : decode cX1_add 23 = .ok (.getfield 15, 3) := by decide +kernel
theorem dX1_add_26 : decode cX1_add 26 = .ok (.ireturn, 1) := by decide +kernel
theorem dX1_empty_0 : decode cX1_empty 0 = .ok (.aload_n 0, 1) := by decide +kernel
theorem dX1_empty_1 : decode cX1_empty 1 = .ok (.getfield 15, 3) := by decide +kernel
theorem dX1_empty_4 : decode cX1_empty 4 = .ok (.istore_n 1, 1) := by decide +kernel
theorem dX1_empty_5 : decode cX1_empty 5 = .ok (.aload_n 0, 1) := by decide +kernel
theorem dX1_empty_6 : decode cX1_empty 6 = .ok (.iconst 0, 1) := by decide +kernel
theorem dX1_empty_7 : decode cX1_empty 7 = .ok (.putfield 15, 3) := by decide +kernel
theorem dX1_empty_10 : decode cX1_empty 10 = .ok (.iload_n 1, 1) := by decide +kernel
theorem dX1_empty_11 : decode cX1_empty 11 = .ok (.ireturn, 1) := by decide +kernel
theorem dX1_signAt_0 : decode cX1_signAt 0 = .ok (.aload_n 0, 1) := by decide +kernel
theorem dX1_signAt_1 : decode cX1_signAt 1 = .ok (.getfield 11, 3) := by decide +kernel
theorem dX1_signAt_4 : decode cX1_signAt 4 = .ok (.iload_n 1, 1) := by decide +kernel
theorem dX1_signAt_5 : decode cX1_signAt 5 = .ok (.invokestatic 23, 3) := by decide +kernel
theorem dX1_signAt_8 : decode cX1_signAt 8 = .ok (.ireturn, 1) := by decide +kernel
theorem dX1_firstFault_0 : decode cX1_firstFault 0 = .ok (.iconst 0, 1) := by decide +kernel
theorem dX1_firstFault_1 : decode cX1_firstFault 1 = .ok (.istore_n 2, 1) := by decide +kernel
theorem dX1_firstFault_2 : decode cX1_firstFault 2 = .ok (.iload_n 2, 1) := by decide +kernel
theorem dX1_firstFault_3 : decode cX1_firstFault 3 = .ok (.aload_n 0, 1) := by decide +kernel
theorem dX1_firstFault_4 : decode cX1_firstFault 4 = .ok (.getfield 15, 3) := by decide +kernel
theorem dX1_firstFault_7 : decode cX1_firstFault 7 = .ok (.if_icmp .ge 54, 3) := by decide +kernel
theorem dX1_firstFault_10 : decode cX1_firstFault 10 = .ok (.aload_n 0, 1) := by decide +kernel
theorem dX1_firstFault_11 : decode cX1_firstFault 11 = .ok (.iload_n 2, 1) := by decide +kernel
theorem dX1_firstFault_12 : decode cX1_firstFault 12 = .ok (.invokevirtual 27, 3) := by decide +kernel
theorem dX1_firstFault_15 : decode cX1_firstFault 15 = .ok (.istore_n 3, 1) := by decide +kernel
theorem dX1_firstFault_16 : decode cX1_firstFault 16 = .ok (.iload_n 1, 1) := by decide +kernel
theorem dX1_firstFault_17 : decode cX1_firstFault 17 = .ok (.ifCond .ne 25, 3) := by decide +kernel
theorem dX1_firstFault_20 : decode cX1_firstFault 20 = .ok (.iload_n 2, 1) := by decide +kernel
theorem dX1_firstFault_21 : decode cX1_firstFault 21 = .ok (.bipush 14, 2) := by decide +kernel
theorem dX1_firstFault_23 : decode cX1_firstFault 23 = .ok (.if_icmp .ge 15, 3) := by decide +kernel
theorem dX1_firstFault_26 : decode cX1_firstFault 26 = .ok (.iload_n 3, 1) := by decide +kernel
theorem dX1_firstFault_27 : decode cX1_firstFault 27 = .ok (.invokestatic 31, 3) := by decide +kernel
theorem dX1_firstFault_30 : decode cX1_firstFault 30 = .ok (.iconst (-1), 1) := by decide +kernel
theorem dX1_firstFault_31 : decode cX1_firstFault 31 = .ok (.if_icmp .eq 7, 3) := by decide +kernel
theorem dX1_firstFault_34 : decode cX1_firstFault 34 = .ok (.iconst 1, 1) := by decide +kernel
theorem dX1_firstFault_35 : decode cX1_firstFault 35 = .ok (.goto 11, 3) := by decide +kernel
theorem dX1_firstFault_38 : decode cX1_firstFault 38 = .ok (.iconst 0, 1) := by decide +kernel
theorem dX1_firstFault_39 : decode cX1_firstFault 39 = .ok (.goto 7, 3) := by decide +kernel
theorem dX1_firstFault_42 : decode cX1_firstFault 42 = .ok (.iload_n 3, 1) := by decide +kernel
theorem dX1_firstFault_43 : decode cX1_firstFault 43 = .ok (.invokestatic 34, 3) := by decide +kernel
theorem dX1_firstFault_46 : decode cX1_firstFault 46 = .ok (.istore 4, 2) := by decide +kernel
theorem dX1_firstFault_48 : decode cX1_firstFault 48 = .ok (.iload 4, 2) := by decide +kernel
theorem dX1_firstFault_50 : decode cX1_firstFault 50 = .ok (.ifCond .ne 5, 3) := by decide +kernel
theorem dX1_firstFault_53 : decode cX1_firstFault 53 = .ok (.iload_n 2, 1) := by decide +kernel
theorem dX1_firstFault_54 : decode cX1_firstFault 54 = .ok (.ireturn, 1) := by decide +kernel
theorem dX1_firstFault_55 : decode cX1_firstFault 55 = .ok (.iinc 2 1, 3) := by decide +kernel
theorem dX1_firstFault_58 : decode cX1_firstFault 58 = .ok (.goto (-56), 3) := by decide +kernel
theorem dX1_firstFault_61 : decode cX1_firstFault 61 = .ok (.aload_n 0, 1) := by decide +kernel
theorem dX1_firstFault_62 : decode cX1_firstFault 62 = .ok (.getfield 15, 3) := by decide +kernel
theorem dX1_firstFault_65 : decode cX1_firstFault 65 = .ok (.ifCond .ne 7, 3) := by decide +kernel
theorem dX1_firstFault_68 : decode cX1_firstFault 68 = .ok (.iconst 0, 1) := by decide +kernel
theorem dX1_firstFault_69 : decode cX1_firstFault 69 = .ok (.goto 5, 3) := by decide +kernel
theorem dX1_firstFault_72 : decode cX1_firstFault 72 = .ok (.bipush (-4), 2) := by decide +kernel
theorem dX1_firstFault_74 : decode cX1_firstFault 74 = .ok (.ireturn, 1) := by decide +kernel
theorem dX1_layOut_0 : decode cX1_layOut 0 = .ok (.aload_n 1, 1) := by decide +kernel
theorem dX1_layOut_1 : decode cX1_layOut 1 = .ok (.aload_n 0, 1) := by decide +kernel
theorem dX1_layOut_2 : decode cX1_layOut 2 = .ok (.getfield 15, 3) := by decide +kernel
theorem dX1_layOut_5 : decode cX1_layOut 5 = .ok (.bipush 14, 2) := by decide +kernel
theorem dX1_layOut_7 : decode cX1_layOut 7 = .ok (.invokestatic 38, 3) := by decide +kernel
theorem dX1_layOut_10 : decode cX1_layOut 10 = .ok (.putfield 44, 3) := by decide +kernel
theorem dX1_layOut_13 : decode cX1_layOut 13 = .ok (.iconst 1, 1) := by decide +kernel
theorem dX1_layOut_14 : decode cX1_layOut 14 = .ok (.istore_n 2, 1) := by decide +kernel
theorem dX1_layOut_15 : decode cX1_layOut 15 = .ok (.iload_n 2, 1) := by decide +kernel
theorem dX1_layOut_16 : decode cX1_layOut 16 = .ok (.bipush 14, 2) := by decide +kernel
theorem dX1_layOut_18 : decode cX1_layOut 18 = .ok (.if_icmp .gt 35, 3) := by decide +kernel
theorem dX1_layOut_21 : decode cX1_layOut 21 = .ok (.iload_n 2, 1) := by decide +kernel
theorem dX1_layOut_22 : decode cX1_layOut 22 = .ok (.aload_n 0, 1) := by decide +kernel
theorem dX1_layOut_23 : decode cX1_layOut 23 = .ok (.getfield 15, 3) := by decide +kernel
theorem dX1_layOut_26 : decode cX1_layOut 26 = .ok (.if_icmp .gt 27, 3) := by decide +kernel
theorem dX1_layOut_29 : decode cX1_layOut 29 = .ok (.aload_n 1, 1) := by decide +kernel
theorem dX1_layOut_30 : decode cX1_layOut 30 = .ok (.getfield 49, 3) := by decide +kernel
theorem dX1_layOut_33 : decode cX1_layOut 33 = .ok (.iload_n 2, 1) := by decide +kernel
theorem dX1_layOut_34 : decode cX1_layOut 34 = .ok (.aload_n 0, 1) := by decide +kernel
theorem dX1_layOut_35 : decode cX1_layOut 35 = .ok (.iload_n 2, 1) := by decide +kernel
theorem dX1_layOut_36 : decode cX1_layOut 36 = .ok (.iconst 1, 1) := by decide +kernel
theorem dX1_layOut_37 : decode cX1_layOut 37 = .ok (.isub, 1) := by decide +kernel
theorem dX1_layOut_38 : decode cX1_layOut 38 = .ok (.invokevirtual 27, 3) := by decide +kernel
theorem dX1_layOut_41 : decode cX1_layOut 41 = .ok (.invokestatic 31, 3) := by decide +kernel
theorem dX1_layOut_44 : decode cX1_layOut 44 = .ok (.invokestatic 19, 3) := by decide +kernel
theorem dX1_layOut_47 : decode cX1_layOut 47 = .ok (.iinc 2 1, 3) := by decide +kernel
theorem dX1_layOut_50 : decode cX1_layOut 50 = .ok (.goto (-35), 3) := by decide +kernel
theorem dX1_layOut_53 : decode cX1_layOut 53 = .ok (.return_, 1) := by decide +kernel
theorem dX1_kindMeant_0 : decode cX1_kindMeant 0 = .ok (.iload_n 0, 1) := by decide +kernel
theorem dX1_kindMeant_1 : decode cX1_kindMeant 1 = .ok (.lookupswitch 51 #[(46, 43), (105, 49), (109, 45), (115, 47)], 43) := by decide +kernel
theorem dX1_kindMeant_44 : decode cX1_kindMeant 44 = .ok (.iconst 0, 1) := by decide +kernel
theorem dX1_kindMeant_45 : decode cX1_kindMeant 45 = .ok (.ireturn, 1) := by decide +kernel
theorem dX1_kindMeant_46 : decode cX1_kindMeant 46 = .ok (.iconst 1, 1) := by decide +kernel
theorem dX1_kindMeant_47 : decode cX1_kindMeant 47 = .ok (.ireturn, 1) := by decide +kernel
theorem dX1_kindMeant_48 : decode cX1_kindMeant 48 = .ok (.iconst 2, 1) := by decide +kernel
theorem dX1_kindMeant_49 : decode cX1_kindMeant 49 = .ok (.ireturn, 1) := by decide +kernel
theorem dX1_kindMeant_50 : decode cX1_kindMeant 50 = .ok (.iconst 3, 1) := by decide +kernel
theorem dX1_kindMeant_51 : decode cX1_kindMeant 51 = .ok (.ireturn, 1) := by decide +kernel
theorem dX1_kindMeant_52 : decode cX1_kindMeant 52 = .ok (.iconst (-1), 1) := by decide +kernel
theorem dX1_kindMeant_53 : decode cX1_kindMeant 53 = .ok (.ireturn, 1) := by decide +kernel
theorem dX1_isTurn_0 : decode cX1_isTurn 0 = .ok (.iload_n 0, 1) := by decide +kernel
theorem dX1_isTurn_1 : decode cX1_isTurn 1 = .ok (.bipush 49, 2) := by decide +kernel
theorem dX1_isTurn_3 : decode cX1_isTurn 3 = .ok (.if_icmp .lt 9, 3) := by decide +kernel
theorem dX1_isTurn_6 : decode cX1_isTurn 6 = .ok (.iload_n 0, 1) := by decide +kernel
theorem dX1_isTurn_7 : decode cX1_isTurn 7 = .ok (.bipush 52, 2) := by decide +kernel
theorem dX1_isTurn_9 : decode cX1_isTurn 9 = .ok (.if_icmp .le 27, 3) := by decide +kernel
theorem dX1_isTurn_12 : decode cX1_isTurn 12 = .ok (.iload_n 0, 1) := by decide +kernel
theorem dX1_isTurn_13 : decode cX1_isTurn 13 = .ok (.bipush 116, 2) := by decide +kernel
theorem dX1_isTurn_15 : decode cX1_isTurn 15 = .ok (.if_icmp .eq 21, 3) := by decide +kernel
theorem dX1_isTurn_18 : decode cX1_isTurn 18 = .ok (.iload_n 0, 1) := by decide +kernel
theorem dX1_isTurn_19 : decode cX1_isTurn 19 = .ok (.bipush 98, 2) := by decide +kernel
theorem dX1_isTurn_21 : decode cX1_isTurn 21 = .ok (.if_icmp .eq 15, 3) := by decide +kernel
theorem dX1_isTurn_24 : decode cX1_isTurn 24 = .ok (.iload_n 0, 1) := by decide +kernel
theorem dX1_isTurn_25 : decode cX1_isTurn 25 = .ok (.bipush 103, 2) := by decide +kernel
theorem dX1_isTurn_27 : decode cX1_isTurn 27 = .ok (.if_icmp .eq 9, 3) := by decide +kernel
theorem dX1_isTurn_30 : decode cX1_isTurn 30 = .ok (.iload_n 0, 1) := by decide +kernel
theorem dX1_isTurn_31 : decode cX1_isTurn 31 = .ok (.bipush 45, 2) := by decide +kernel
theorem dX1_isTurn_33 : decode cX1_isTurn 33 = .ok (.if_icmp .ne 7, 3) := by decide +kernel
theorem dX1_isTurn_36 : decode cX1_isTurn 36 = .ok (.iconst 1, 1) := by decide +kernel
theorem dX1_isTurn_37 : decode cX1_isTurn 37 = .ok (.goto 4, 3) := by decide +kernel
theorem dX1_isTurn_40 : decode cX1_isTurn 40 = .ok (.iconst 0, 1) := by decide +kernel
theorem dX1_isTurn_41 : decode cX1_isTurn 41 = .ok (.ireturn, 1) := by decide +kernel
theorem dX2_init_0 : decode cX2_init 0 = .ok (.aload_n 0, 1) := by decide +kernel
theorem dX2_init_1 : decode cX2_init 1 = .ok (.invokespecial 3, 3) := by decide +kernel
theorem dX2_init_4 : decode cX2_init 4 = .ok (.aload_n 0, 1) := by decide +kernel
theorem dX2_init_5 : decode cX2_init 5 = .ok (.new 9, 3) := by decide +kernel
theorem dX2_init_8 : decode cX2_init 8 = .ok (.dup, 1) := by decide +kernel
theorem dX2_init_9 : decode cX2_init 9 = .ok (.invokespecial 11, 3) := by decide +kernel
theorem dX2_init_12 : decode cX2_init 12 = .ok (.putfield 12, 3) := by decide +kernel
theorem dX2_init_15 : decode cX2_init 15 = .ok (.aload_n 0, 1) := by decide +kernel
theorem dX2_init_16 : decode cX2_init 16 = .ok (.new 18, 3) := by decide +kernel
theorem dX2_init_19 : decode cX2_init 19 = .ok (.dup, 1) := by decide +kernel
theorem dX2_init_20 : decode cX2_init 20 = .ok (.invokespecial 20, 3) := by decide +kernel
theorem dX2_init_23 : decode cX2_init 23 = .ok (.putfield 21, 3) := by decide +kernel
theorem dX2_init_26 : decode cX2_init 26 = .ok (.aload_n 0, 1) := by decide +kernel
theorem dX2_init_27 : decode cX2_init 27 = .ok (.new 18, 3) := by decide +kernel
theorem dX2_init_30 : decode cX2_init 30 = .ok (.dup, 1) := by decide +kernel
theorem dX2_init_31 : decode cX2_init 31 = .ok (.invokespecial 20, 3) := by decide +kernel
theorem dX2_init_34 : decode cX2_init 34 = .ok (.putfield 25, 3) := by decide +kernel
theorem dX2_init_37 : decode cX2_init 37 = .ok (.aload_n 0, 1) := by decide +kernel
theorem dX2_init_38 : decode cX2_init 38 = .ok (.iconst 3, 1) := by decide +kernel
theorem dX2_init_39 : decode cX2_init 39 = .ok (.putfield 28, 3) := by decide +kernel
theorem dX2_init_42 : decode cX2_init 42 = .ok (.aload_n 0, 1) := by decide +kernel
theorem dX2_init_43 : decode cX2_init 43 = .ok (.iconst 1, 1) := by decide +kernel
theorem dX2_init_44 : decode cX2_init 44 = .ok (.putfield 32, 3) := by decide +kernel
theorem dX2_init_47 : decode cX2_init 47 = .ok (.aload_n 0, 1) := by decide +kernel
theorem dX2_init_48 : decode cX2_init 48 = .ok (.iconst 0, 1) := by decide +kernel
theorem dX2_init_49 : decode cX2_init 49 = .ok (.putfield 35, 3) := by decide +kernel
theorem dX2_init_52 : decode cX2_init 52 = .ok (.aload_n 0, 1) := by decide +kernel
theorem dX2_init_53 : decode cX2_init 53 = .ok (.iconst 0, 1) := by decide +kernel
theorem dX2_init_54 : decode cX2_init 54 = .ok (.putfield 38, 3) := by decide +kernel
theorem dX2_init_57 : decode cX2_init 57 = .ok (.aload_n 0, 1) := by decide +kernel
theorem dX2_init_58 : decode cX2_init 58 = .ok (.iconst 0, 1) := by decide +kernel
theorem dX2_init_59 : decode cX2_init 59 = .ok (.putfield 41, 3) := by decide +kernel
theorem dX2_init_62 : decode cX2_init 62 = .ok (.aload_n 0, 1) := by decide +kernel
theorem dX2_init_63 : decode cX2_init 63 = .ok (.invokevirtual 44, 3) := by decide +kernel
theorem dX2_init_66 : decode cX2_init 66 = .ok (.return_, 1) := by decide +kernel
theorem dX2_begin_0 : decode cX2_begin 0 = .ok (.aload_n 0, 1) := by decide +kernel
theorem dX2_begin_1 : decode cX2_begin 1 = .ok (.getfield 21, 3) := by decide +kernel
theorem dX2_begin_4 : decode cX2_begin 4 = .ok (.invokevirtual 47, 3) := by decide +kernel
theorem dX2_begin_7 : decode cX2_begin 7 = .ok (.aload_n 0, 1) := by decide +kernel
theorem dX2_begin_8 : decode cX2_begin 8 = .ok (.getfield 25, 3) := by decide +kernel
theorem dX2_begin_11 : decode cX2_begin 11 = .ok (.invokevirtual 47, 3) := by decide +kernel
theorem dX2_begin_14 : decode cX2_begin 14 = .ok (.aload_n 0, 1) := by decide +kernel
theorem dX2_begin_15 : decode cX2_begin 15 = .ok (.iconst 0, 1) := by decide +kernel
theorem dX2_begin_16 : decode cX2_begin 16 = .ok (.putfield 48, 3) := by decide +kernel
theorem dX2_begin_19 : decode cX2_begin 19 = .ok (.aload_n 0, 1) := by decide +kernel
theorem dX2_begin_20 : decode cX2_begin 20 = .ok (.bipush (-4), 2) := by decide +kernel
theorem dX2_begin_22 : decode cX2_begin 22 = .ok (.putfield 51, 3) := by decide +kernel
theorem dX2_begin_25 : decode cX2_begin 25 = .ok (.aload_n 0, 1) := by decide +kernel
theorem dX2_begin_26 : decode cX2_begin 26 = .ok (.iconst 0, 1) := by decide +kernel
theorem dX2_begin_27 : decode cX2_begin 27 = .ok (.putfield 54, 3) := by decide +kernel
theorem dX2_begin_30 : decode cX2_begin 30 = .ok (.aload_n 0, 1) := by decide +kernel
theorem dX2_begin_31 : decode cX2_begin 31 = .ok (.dup, 1) := by decide +kernel
theorem dX2_begin_32 : decode cX2_begin 32 = .ok (.getfield 35, 3) := by decide +kernel
theorem dX2_begin_35 : decode cX2_begin 35 = .ok (.iconst 1, 1) := by decide +kernel
theorem dX2_begin_36 : decode cX2_begin 36 = .ok (.iadd, 1) := by decide +kernel
theorem dX2_begin_37 : decode cX2_begin 37 = .ok (.putfield 35, 3) := by decide +kernel
theorem dX2_begin_40 : decode cX2_begin 40 = .ok (.return_, 1) := by decide +kernel
theorem dX2_takeOver_0 : decode cX2_takeOver 0 = .ok (.aload_n 0, 1) := by decide +kernel
theorem dX2_takeOver_1 : decode cX2_takeOver 1 = .ok (.getfield 12, 3) := by decide +kernel
theorem dX2_takeOver_4 : decode cX2_takeOver 4 = .ok (.aload_n 1, 1) := by decide +kernel
theorem dX2_takeOver_5 : decode cX2_takeOver 5 = .ok (.getfield 12, 3) := by decide +kernel
theorem dX2_takeOver_8 : decode cX2_takeOver 8 = .ok (.invokevirtual 57, 3) := by decide +kernel
theorem dX2_takeOver_11 : decode cX2_takeOver 11 = .ok (.aload_n 0, 1) := by decide +kernel
theorem dX2_takeOver_12 : decode cX2_takeOver 12 = .ok (.getfield 21, 3) := by decide +kernel
theorem dX2_takeOver_15 : decode cX2_takeOver 15 = .ok (.aload_n 1, 1) := by decide +kernel
theorem dX2_takeOver_16 : decode cX2_takeOver 16 = .ok (.getfield 21, 3) := by decide +kernel
theorem dX2_takeOver_19 : decode cX2_takeOver 19 = .ok (.invokevirtual 61, 3) := by decide +kernel
theorem dX2_takeOver_22 : decode cX2_takeOver 22 = .ok (.aload_n 0, 1) := by decide +kernel
theorem dX2_takeOver_23 : decode cX2_takeOver 23 = .ok (.getfield 25, 3) := by decide +kernel
theorem dX2_takeOver_26 : decode cX2_takeOver 26 = .ok (.aload_n 1, 1) := by decide +kernel
theorem dX2_takeOver_27 : decode cX2_takeOver 27 = .ok (.getfield 25, 3) := by decide +kernel
theorem dX2_takeOver_30 : decode cX2_takeOver 30 = .ok (.invokevirtual 61, 3) := by decide +kernel
theorem dX2_takeOver_33 : decode cX2_takeOver 33 = .ok (.aload_n 0, 1) := by decide +kernel
theorem dX2_takeOver_34 : decode cX2_takeOver 34 = .ok (.aload_n 1, 1) := by decide +kernel
theorem dX2_takeOver_35 : decode cX2_takeOver 35 = .ok (.getfield 28, 3) := by decide +kernel
theorem dX2_takeOver_38 : decode cX2_takeOver 38 = .ok (.putfield 28, 3) := by decide +kernel
theorem dX2_takeOver_41 : decode cX2_takeOver 41 = .ok (.aload_n 0, 1) := by decide +kernel
theorem dX2_takeOver_42 : decode cX2_takeOver 42 = .ok (.aload_n 1, 1) := by decide +kernel
theorem dX2_takeOver_43 : decode cX2_takeOver 43 = .ok (.getfield 32, 3) := by decide +kernel
theorem dX2_takeOver_46 : decode cX2_takeOver 46 = .ok (.putfield 32, 3) := by decide +kernel
theorem dX2_takeOver_49 : decode cX2_takeOver 49 = .ok (.aload_n 0, 1) := by decide +kernel
theorem dX2_takeOver_50 : decode cX2_takeOver 50 = .ok (.aload_n 1, 1) := by decide +kernel
theorem dX2_takeOver_51 : decode cX2_takeOver 51 = .ok (.getfield 48, 3) := by decide +kernel
theorem dX2_takeOver_54 : decode cX2_takeOver 54 = .ok (.putfield 48, 3) := by decide +kernel
theorem dX2_takeOver_57 : decode cX2_takeOver 57 = .ok (.aload_n 0, 1) := by decide +kernel
theorem dX2_takeOver_58 : decode cX2_takeOver 58 = .ok (.aload_n 1, 1) := by decide +kernel
theorem dX2_takeOver_59 : decode cX2_takeOver 59 = .ok (.getfield 51, 3) := by decide +kernel
theorem dX2_takeOver_62 : decode cX2_takeOver 62 = .ok (.putfield 51, 3) := by decide +kernel
theorem dX2_takeOver_65 : decode cX2_takeOver 65 = .ok (.aload_n 0, 1) := by decide +kernel
theorem dX2_takeOver_66 : decode cX2_takeOver 66 = .ok (.aload_n 1, 1) := by decide +kernel
theorem dX2_takeOver_67 : decode cX2_takeOver 67 = .ok (.getfield 54, 3) := by decide +kernel
theorem dX2_takeOver_70 : decode cX2_takeOver 70 = .ok (.putfield 54, 3) := by decide +kernel
theorem dX2_takeOver_73 : decode cX2_takeOver 73 = .ok (.aload_n 0, 1) := by decide +kernel
theorem dX2_takeOver_74 : decode cX2_takeOver 74 = .ok (.aload_n 1, 1) := by decide +kernel
theorem dX2_takeOver_75 : decode cX2_takeOver 75 = .ok (.getfield 35, 3) := by decide +kernel
theorem dX2_takeOver_78 : decode cX2_takeOver 78 = .ok (.putfield 35, 3) := by decide +kernel
theorem dX2_takeOver_81 : decode cX2_takeOver 81 = .ok (.aload_n 0, 1) := by decide +kernel
theorem dX2_takeOver_82 : decode cX2_takeOver 82 = .ok (.aload_n 1, 1) := by decide +kernel
theorem dX2_takeOver_83 : decode cX2_takeOver 83 = .ok (.getfield 38, 3) := by decide +kernel
theorem dX2_takeOver_86 : decode cX2_takeOver 86 = .ok (.putfield 38, 3) := by decide +kernel
theorem dX2_takeOver_89 : decode cX2_takeOver 89 = .ok (.aload_n 0, 1) := by decide +kernel
theorem dX2_takeOver_90 : decode cX2_takeOver 90 = .ok (.aload_n 1, 1) := by decide +kernel
theorem dX2_takeOver_91 : decode cX2_takeOver 91 = .ok (.getfield 41, 3) := by decide +kernel
theorem dX2_takeOver_94 : decode cX2_takeOver 94 = .ok (.putfield 41, 3) := by decide +kernel
theorem dX2_takeOver_97 : decode cX2_takeOver 97 = .ok (.return_, 1) := by decide +kernel
theorem dX2_isOver_0 : decode cX2_isOver 0 = .ok (.aload_n 0, 1) := by decide +kernel
theorem dX2_isOver_1 : decode cX2_isOver 1 = .ok (.getfield 51, 3) := by decide +kernel
theorem dX2_isOver_4 : decode cX2_isOver 4 = .ok (.bipush (-4), 2) := by decide +kernel
theorem dX2_isOver_6 : decode cX2_isOver 6 = .ok (.if_icmp .eq 7, 3) := by decide +kernel
theorem dX2_isOver_9 : decode cX2_isOver 9 = .ok (.iconst 1, 1) := by decide +kernel
theorem dX2_isOver_10 : decode cX2_isOver 10 = .ok (.goto 4, 3) := by decide +kernel
theorem dX2_isOver_13 : decode cX2_isOver 13 = .ok (.iconst 0, 1) := by decide +kernel
theorem dX2_isOver_14 : decode cX2_isOver 14 = .ok (.ireturn, 1) := by decide +kernel
theorem dX2_mover_0 : decode cX2_mover 0 = .ok (.aload_n 0, 1) := by decide +kernel
theorem dX2_mover_1 : decode cX2_mover 1 = .ok (.getfield 48, 3) := by decide +kernel
theorem dX2_mover_4 : decode cX2_mover 4 = .ok (.ifCond .ne 10, 3) := by decide +kernel
theorem dX2_mover_7 : decode cX2_mover 7 = .ok (.aload_n 0, 1) := by decide +kernel
theorem dX2_mover_8 : decode cX2_mover 8 = .ok (.getfield 21, 3) := by decide +kernel
theorem dX2_mover_11 : decode cX2_mover 11 = .ok (.goto 7, 3) := by decide +kernel
theorem dX2_mover_14 : decode cX2_mover 14 = .ok (.aload_n 0, 1) := by decide +kernel
theorem dX2_mover_15 : decode cX2_mover 15 = .ok (.getfield 25, 3) := by decide +kernel
theorem dX2_mover_18 : decode cX2_mover 18 = .ok (.areturn, 1) := by decide +kernel
theorem dX2_waiting_0 : decode cX2_waiting 0 = .ok (.aload_n 0, 1) := by decide +kernel
theorem dX2_waiting_1 : decode cX2_waiting 1 = .ok (.getfield 48, 3) := by decide +kernel
theorem dX2_waiting_4 : decode cX2_waiting 4 = .ok (.ifCond .ne 10, 3) := by decide +kernel
theorem dX2_waiting_7 : decode cX2_waiting 7 = .ok (.aload_n 0, 1) := by decide +kernel
theorem dX2_waiting_8 : decode cX2_waiting 8 = .ok (.getfield 25, 3) := by decide +kernel
theorem dX2_waiting_11 : decode cX2_waiting 11 = .ok (.goto 7, 3) := by decide +kernel
theorem dX2_waiting_14 : decode cX2_waiting 14 = .ok (.aload_n 0, 1) := by decide +kernel
theorem dX2_waiting_15 : decode cX2_waiting 15 = .ok (.getfield 21, 3) := by decide +kernel
theorem dX2_waiting_18 : decode cX2_waiting 18 = .ok (.areturn, 1) := by decide +kernel
theorem dX2_wagonOn_0 : decode cX2_wagonOn 0 = .ok (.aload_n 0, 1) := by decide +kernel
theorem dX2_wagonOn_1 : decode cX2_wagonOn 1 = .ok (.getfield 21, 3) := by decide +kernel
theorem dX2_wagonOn_4 : decode cX2_wagonOn 4 = .ok (.getfield 64, 3) := by decide +kernel
theorem dX2_wagonOn_7 : decode cX2_wagonOn 7 = .ok (.iload_n 1, 1) := by decide +kernel
theorem dX2_wagonOn_8 : decode cX2_wagonOn 8 = .ok (.if_icmp .ne 5, 3) := by decide +kernel
theorem dX2_wagonOn_11 : decode cX2_wagonOn 11 = .ok (.iconst 0, 1) := by decide +kernel
theorem dX2_wagonOn_12 : decode cX2_wagonOn 12 = .ok (.ireturn, 1) := by decide +kernel
theorem dX2_wagonOn_13 : decode cX2_wagonOn 13 = .ok (.aload_n 0, 1) := by decide +kernel
theorem dX2_wagonOn_14 : decode cX2_wagonOn 14 = .ok (.getfield 25, 3) := by decide +kernel
theorem dX2_wagonOn_17 : decode cX2_wagonOn 17 = .ok (.getfield 64, 3) := by decide +kernel
theorem dX2_wagonOn_20 : decode cX2_wagonOn 20 = .ok (.iload_n 1, 1) := by decide +kernel
theorem dX2_wagonOn_21 : decode cX2_wagonOn 21 = .ok (.if_icmp .ne 7, 3) := by decide +kernel
theorem dX2_wagonOn_24 : decode cX2_wagonOn 24 = .ok (.iconst 1, 1) := by decide +kernel
theorem dX2_wagonOn_25 : decode cX2_wagonOn 25 = .ok (.goto 5, 3) := by decide +kernel
theorem dX2_wagonOn_28 : decode cX2_wagonOn 28 = .ok (.bipush (-4), 2) := by decide +kernel
theorem dX2_wagonOn_30 : decode cX2_wagonOn 30 = .ok (.ireturn, 1) := by decide +kernel
theorem dX2_refusal_0 : decode cX2_refusal 0 = .ok (.aload_n 0, 1) := by decide +kernel
theorem dX2_refusal_1 : decode cX2_refusal 1 = .ok (.invokevirtual 67, 3) := by decide +kernel
theorem dX2_refusal_4 : decode cX2_refusal 4 = .ok (.ifCond .eq 5, 3) := by decide +kernel
theorem dX2_refusal_7 : decode cX2_refusal 7 = .ok (.iconst 1, 1) := by decide +kernel
theorem dX2_refusal_8 : decode cX2_refusal 8 = .ok (.ireturn, 1) := by decide +kernel
theorem dX2_refusal_9 : decode cX2_refusal 9 = .ok (.aload_n 0, 1) := by decide +kernel
theorem dX2_refusal_10 : decode cX2_refusal 10 = .ok (.invokevirtual 71, 3) := by decide +kernel
theorem dX2_refusal_13 : decode cX2_refusal 13 = .ok (.getfield 75, 3) := by decide +kernel
theorem dX2_refusal_16 : decode cX2_refusal 16 = .ok (.ifCond .le 13, 3) := by decide +kernel
theorem dX2_refusal_19 : decode cX2_refusal 19 = .ok (.iload_n 1, 1) := by decide +kernel
theorem dX2_refusal_20 : decode cX2_refusal 20 = .ok (.ifCond .ne 7, 3) := by decide +kernel
theorem dX2_refusal_23 : decode cX2_refusal 23 = .ok (.iconst 0, 1) := by decide +kernel
theorem dX2_refusal_24 : decode cX2_refusal 24 = .ok (.goto 4, 3) := by decide +kernel
theorem dX2_refusal_27 : decode cX2_refusal 27 = .ok (.iconst 2, 1) := by decide +kernel
theorem dX2_refusal_28 : decode cX2_refusal 28 = .ok (.ireturn, 1) := by decide +kernel
theorem dX2_refusal_29 : decode cX2_refusal 29 = .ok (.iload_n 1, 1) := by decide +kernel
theorem dX2_refusal_30 : decode cX2_refusal 30 = .ok (.ifCond .ne 5, 3) := by decide +kernel
theorem dX2_refusal_33 : decode cX2_refusal 33 = .ok (.iconst 3, 1) := by decide +kernel
theorem dX2_refusal_34 : decode cX2_refusal 34 = .ok (.ireturn, 1) := by decide +kernel
theorem dX2_refusal_35 : decode cX2_refusal 35 = .ok (.iload_n 1, 1) := by decide +kernel
theorem dX2_refusal_36 : decode cX2_refusal 36 = .ok (.iconst 5, 1) := by decide +kernel
theorem dX2_refusal_37 : decode cX2_refusal 37 = .ok (.if_icmp .ne 19, 3) := by decide +kernel
theorem dX2_refusal_40 : decode cX2_refusal 40 = .ok (.aload_n 0, 1) := by decide +kernel
theorem dX2_refusal_41 : decode cX2_refusal 41 = .ok (.invokevirtual 71, 3) := by decide +kernel
theorem dX2_refusal_44 : decode cX2_refusal 44 = .ok (.getfield 78, 3) := by decide +kernel
theorem dX2_refusal_47 : decode cX2_refusal 47 = .ok (.ifCond .eq 7, 3) := by decide +kernel
theorem dX2_refusal_50 : decode cX2_refusal 50 = .ok (.iconst 0, 1) := by decide +kernel
theorem dX2_refusal_51 : decode cX2_refusal 51 = .ok (.goto 4, 3) := by decide +kernel
theorem dX2_refusal_54 : decode cX2_refusal 54 = .ok (.iconst 5, 1) := by decide +kernel
theorem dX2_refusal_55 : decode cX2_refusal 55 = .ok (.ireturn, 1) := by decide +kernel
theorem dX2_refusal_56 : decode cX2_refusal 56 = .ok (.iload_n 1, 1) := by decide +kernel
theorem dX2_refusal_57 : decode cX2_refusal 57 = .ok (.aload_n 0, 1) := by decide +kernel
theorem dX2_refusal_58 : decode cX2_refusal 58 = .ok (.getfield 28, 3) := by decide +kernel
theorem dX2_refusal_61 : decode cX2_refusal 61 = .ok (.if_icmp .le 7, 3) := by decide +kernel
theorem dX2_refusal_64 : decode cX2_refusal 64 = .ok (.iconst 4, 1) := by decide +kernel
theorem dX2_refusal_65 : decode cX2_refusal 65 = .ok (.goto 4, 3) := by decide +kernel
theorem dX2_refusal_68 : decode cX2_refusal 68 = .ok (.iconst 0, 1) := by decide +kernel
theorem dX2_refusal_69 : decode cX2_refusal 69 = .ok (.ireturn, 1) := by decide +kernel
theorem dX2_make_0 : decode cX2_make 0 = .ok (.aload_n 0, 1) := by decide +kernel
theorem dX2_make_1 : decode cX2_make 1 = .ok (.invokevirtual 71, 3) := by decide +kernel
theorem dX2_make_4 : decode cX2_make 4 = .ok (.astore_n 2, 1) := by decide +kernel
theorem dX2_make_5 : decode cX2_make 5 = .ok (.iload_n 1, 1) := by decide +kernel
theorem dX2_make_6 : decode cX2_make 6 = .ok (.ifCond .ne 10, 3) := by decide +kernel
theorem dX2_make_9 : decode cX2_make 9 = .ok (.aload_n 2, 1) := by decide +kernel
theorem dX2_make_10 : decode cX2_make 10 = .ok (.invokevirtual 82, 3) := by decide +kernel
theorem dX2_make_13 : decode cX2_make 13 = .ok (.goto 39, 3) := by decide +kernel
theorem dX2_make_16 : decode cX2_make 16 = .ok (.iload_n 1, 1) := by decide +kernel
theorem dX2_make_17 : decode cX2_make 17 = .ok (.iconst 5, 1) := by decide +kernel
theorem dX2_make_18 : decode cX2_make 18 = .ok (.if_icmp .ne 18, 3) := by decide +kernel
theorem dX2_make_21 : decode cX2_make 21 = .ok (.aload_n 2, 1) := by decide +kernel
theorem dX2_make_22 : decode cX2_make 22 = .ok (.aload_n 0, 1) := by decide +kernel
theorem dX2_make_23 : decode cX2_make 23 = .ok (.invokevirtual 85, 3) := by decide +kernel
theorem dX2_make_26 : decode cX2_make 26 = .ok (.aload_n 0, 1) := by decide +kernel
theorem dX2_make_27 : decode cX2_make 27 = .ok (.getfield 32, 3) := by decide +kernel
theorem dX2_make_30 : decode cX2_make 30 = .ok (.invokevirtual 88, 3) := by decide +kernel
theorem dX2_make_33 : decode cX2_make 33 = .ok (.goto 19, 3) := by decide +kernel
theorem dX2_make_36 : decode cX2_make 36 = .ok (.aload_n 2, 1) := by decide +kernel
theorem dX2_make_37 : decode cX2_make 37 = .ok (.aload_n 0, 1) := by decide +kernel
theorem dX2_make_38 : decode cX2_make 38 = .ok (.getfield 12, 3) := by decide +kernel
theorem dX2_make_41 : decode cX2_make 41 = .ok (.aload_n 0, 1) := by decide +kernel
theorem dX2_make_42 : decode cX2_make 42 = .ok (.invokevirtual 85, 3) := by decide +kernel
theorem dX2_make_45 : decode cX2_make 45 = .ok (.getfield 64, 3) := by decide +kernel
theorem dX2_make_48 : decode cX2_make 48 = .ok (.iload_n 1, 1) := by decide +kernel
theorem dX2_make_49 : decode cX2_make 49 = .ok (.invokevirtual 92, 3) := by decide +kernel
theorem dX2_make_52 : decode cX2_make 52 = .ok (.aload_n 2, 1) := by decide +kernel
theorem dX2_make_53 : decode cX2_make 53 = .ok (.dup, 1) := by decide +kernel
theorem dX2_make_54 : decode cX2_make 54 = .ok (.getfield 96, 3) := by decide +kernel
theorem dX2_make_57 : decode cX2_make 57 = .ok (.iconst 1, 1) := by decide +kernel
theorem dX2_make_58 : decode cX2_make 58 = .ok (.iadd, 1) := by decide +kernel
theorem dX2_make_59 : decode cX2_make 59 = .ok (.putfield 96, 3) := by decide +kernel
theorem dX2_make_62 : decode cX2_make 62 = .ok (.aload_n 0, 1) := by decide +kernel
theorem dX2_make_63 : decode cX2_make 63 = .ok (.dup, 1) := by decide +kernel
theorem dX2_make_64 : decode cX2_make 64 = .ok (.getfield 54, 3) := by decide +kernel
theorem dX2_make_67 : decode cX2_make 67 = .ok (.iconst 1, 1) := by decide +kernel
theorem dX2_make_68 : decode cX2_make 68 = .ok (.iadd, 1) := by decide +kernel
theorem dX2_make_69 : decode cX2_make 69 = .ok (.putfield 54, 3) := by decide +kernel
theorem dX2_make_72 : decode cX2_make 72 = .ok (.aload_n 0, 1) := by decide +kernel
theorem dX2_make_73 : decode cX2_make 73 = .ok (.getfield 12, 3) := by decide +kernel
theorem dX2_make_76 : decode cX2_make 76 = .ok (.aload_n 2, 1) := by decide +kernel
theorem dX2_make_77 : decode cX2_make 77 = .ok (.getfield 64, 3) := by decide +kernel
theorem dX2_make_80 : decode cX2_make 80 = .ok (.invokevirtual 97, 3) := by decide +kernel
theorem dX2_make_83 : decode cX2_make 83 = .ok (.ifCond .eq 7, 3) := by decide +kernel
theorem dX2_make_86 : decode cX2_make 86 = .ok (.aload_n 0, 1) := by decide +kernel
theorem dX2_make_87 : decode cX2_make 87 = .ok (.invokevirtual 101, 3) := by decide +kernel
theorem dX2_make_90 : decode cX2_make 90 = .ok (.aload_n 0, 1) := by decide +kernel
theorem dX2_make_91 : decode cX2_make 91 = .ok (.iconst 1, 1) := by decide +kernel
theorem dX2_make_92 : decode cX2_make 92 = .ok (.aload_n 0, 1) := by decide +kernel
theorem dX2_make_93 : decode cX2_make 93 = .ok (.getfield 48, 3) := by decide +kernel
theorem dX2_make_96 : decode cX2_make 96 = .ok (.isub, 1) := by decide +kernel
theorem dX2_make_97 : decode cX2_make 97 = .ok (.putfield 48, 3) := by decide +kernel
theorem dX2_make_100 : decode cX2_make 100 = .ok (.return_, 1) := by decide +kernel
theorem dX2_arrive_0 : decode cX2_arrive 0 = .ok (.aload_n 0, 1) := by decide +kernel
theorem dX2_arrive_1 : decode cX2_arrive 1 = .ok (.aload_n 0, 1) := by decide +kernel
theorem dX2_arrive_2 : decode cX2_arrive 2 = .ok (.getfield 48, 3) := by decide +kernel
theorem dX2_arrive_5 : decode cX2_arrive 5 = .ok (.putfield 51, 3) := by decide +kernel
theorem dX2_arrive_8 : decode cX2_arrive 8 = .ok (.aload_n 0, 1) := by decide +kernel
theorem dX2_arrive_9 : decode cX2_arrive 9 = .ok (.getfield 51, 3) := by decide +kernel
theorem dX2_arrive_12 : decode cX2_arrive 12 = .ok (.ifCond .ne 16, 3) := by decide +kernel
theorem dX2_arrive_15 : decode cX2_arrive 15 = .ok (.aload_n 0, 1) := by decide +kernel
theorem dX2_arrive_16 : decode cX2_arrive 16 = .ok (.dup, 1) := by decide +kernel
theorem dX2_arrive_17 : decode cX2_arrive 17 = .ok (.getfield 38, 3) := by decide +kernel
theorem dX2_arrive_20 : decode cX2_arrive 20 = .ok (.iconst 1, 1) := by decide +kernel
theorem dX2_arrive_21 : decode cX2_arrive 21 = .ok (.iadd, 1) := by decide +kernel
theorem dX2_arrive_22 : decode cX2_arrive 22 = .ok (.putfield 38, 3) := by decide +kernel
theorem dX2_arrive_25 : decode cX2_arrive 25 = .ok (.goto 13, 3) := by decide +kernel
theorem dX2_arrive_28 : decode cX2_arrive 28 = .ok (.aload_n 0, 1) := by decide +kernel
theorem dX2_arrive_29 : decode cX2_arrive 29 = .ok (.dup, 1) := by decide +kernel
theorem dX2_arrive_30 : decode cX2_arrive 30 = .ok (.getfield 41, 3) := by decide +kernel
theorem dX2_arrive_33 : decode cX2_arrive 33 = .ok (.iconst 1, 1) := by decide +kernel
theorem dX2_arrive_34 : decode cX2_arrive 34 = .ok (.iadd, 1) := by decide +kernel
theorem dX2_arrive_35 : decode cX2_arrive 35 = .ok (.putfield 41, 3) := by decide +kernel
theorem dX2_arrive_38 : decode cX2_arrive 38 = .ok (.return_, 1) := by decide +kernel
theorem dX2_greediest_0 : decode cX2_greediest 0 = .ok (.aload_n 0, 1) := by decide +kernel
theorem dX2_greediest_1 : decode cX2_greediest 1 = .ok (.invokevirtual 71, 3) := by decide +kernel
theorem dX2_greediest_4 : decode cX2_greediest 4 = .ok (.astore_n 1, 1) := by decide +kernel
theorem dX2_greediest_5 : decode cX2_greediest 5 = .ok (.aload_n 1, 1) := by decide +kernel
theorem dX2_greediest_6 : decode cX2_greediest 6 = .ok (.getfield 75, 3) := by decide +kernel
theorem dX2_greediest_9 : decode cX2_greediest 9 = .ok (.ifCond .le 5, 3) := by decide +kernel
theorem dX2_greediest_12 : decode cX2_greediest 12 = .ok (.iconst 0, 1) := by decide +kernel
theorem dX2_greediest_13 : decode cX2_greediest 13 = .ok (.ireturn, 1) := by decide +kernel
theorem dX2_greediest_14 : decode cX2_greediest 14 = .ok (.iconst 1, 1) := by decide +kernel
theorem dX2_greediest_15 : decode cX2_greediest 15 = .ok (.istore_n 2, 1) := by decide +kernel
theorem dX2_greediest_16 : decode cX2_greediest 16 = .ok (.iconst (-1), 1) := by decide +kernel
theorem dX2_greediest_17 : decode cX2_greediest 17 = .ok (.istore_n 3, 1) := by decide +kernel
theorem dX2_greediest_18 : decode cX2_greediest 18 = .ok (.iconst 1, 1) := by decide +kernel
theorem dX2_greediest_19 : decode cX2_greediest 19 = .ok (.istore 4, 2) := by decide +kernel
theorem dX2_greediest_21 : decode cX2_greediest 21 = .ok (.iload 4, 2) := by decide +kernel
theorem dX2_greediest_23 : decode cX2_greediest 23 = .ok (.iconst 4, 1) := by decide +kernel
theorem dX2_greediest_24 : decode cX2_greediest 24 = .ok (.if_icmp .gt 52, 3) := by decide +kernel
theorem dX2_greediest_27 : decode cX2_greediest 27 = .ok (.iload 4, 2) := by decide +kernel
theorem dX2_greediest_29 : decode cX2_greediest 29 = .ok (.aload_n 0, 1) := by decide +kernel
theorem dX2_greediest_30 : decode cX2_greediest 30 = .ok (.getfield 28, 3) := by decide +kernel
theorem dX2_greediest_33 : decode cX2_greediest 33 = .ok (.if_icmp .gt 43, 3) := by decide +kernel
theorem dX2_greediest_36 : decode cX2_greediest 36 = .ok (.aload_n 0, 1) := by decide +kernel
theorem dX2_greediest_37 : decode cX2_greediest 37 = .ok (.getfield 12, 3) := by decide +kernel
theorem dX2_greediest_40 : decode cX2_greediest 40 = .ok (.aload_n 1, 1) := by decide +kernel
theorem dX2_greediest_41 : decode cX2_greediest 41 = .ok (.getfield 64, 3) := by decide +kernel
theorem dX2_greediest_44 : decode cX2_greediest 44 = .ok (.aload_n 0, 1) := by decide +kernel
theorem dX2_greediest_45 : decode cX2_greediest 45 = .ok (.invokevirtual 85, 3) := by decide +kernel
theorem dX2_greediest_48 : decode cX2_greediest 48 = .ok (.getfield 64, 3) := by decide +kernel
theorem dX2_greediest_51 : decode cX2_greediest 51 = .ok (.iload 4, 2) := by decide +kernel
theorem dX2_greediest_53 : decode cX2_greediest 53 = .ok (.invokevirtual 104, 3) := by decide +kernel
theorem dX2_greediest_56 : decode cX2_greediest 56 = .ok (.istore 5, 2) := by decide +kernel
theorem dX2_greediest_58 : decode cX2_greediest 58 = .ok (.iload 5, 2) := by decide +kernel
theorem dX2_greediest_60 : decode cX2_greediest 60 = .ok (.iload_n 3, 1) := by decide +kernel
theorem dX2_greediest_61 : decode cX2_greediest 61 = .ok (.if_icmp .le 9, 3) := by decide +kernel
theorem dX2_greediest_64 : decode cX2_greediest 64 = .ok (.iload 5, 2) := by decide +kernel
theorem dX2_greediest_66 : decode cX2_greediest 66 = .ok (.istore_n 3, 1) := by decide +kernel
theorem dX2_greediest_67 : decode cX2_greediest 67 = .ok (.iload 4, 2) := by decide +kernel
theorem dX2_greediest_69 : decode cX2_greediest 69 = .ok (.istore_n 2, 1) := by decide +kernel
theorem dX2_greediest_70 : decode cX2_greediest 70 = .ok (.iinc 4 1, 3) := by decide +kernel
theorem dX2_greediest_73 : decode cX2_greediest 73 = .ok (.goto (-52), 3) := by decide +kernel
theorem dX2_greediest_76 : decode cX2_greediest 76 = .ok (.iload_n 2, 1) := by decide +kernel
theorem dX2_greediest_77 : decode cX2_greediest 77 = .ok (.ireturn, 1) := by decide +kernel
theorem dX3_init_0 : decode cX3_init 0 = .ok (.aload_n 0, 1) := by decide +kernel
theorem dX3_init_1 : decode cX3_init 1 = .ok (.invokespecial 3, 3) := by decide +kernel
theorem dX3_init_4 : decode cX3_init 4 = .ok (.aload_n 0, 1) := by decide +kernel
theorem dX3_init_5 : decode cX3_init 5 = .ok (.bipush 15, 2) := by decide +kernel
theorem dX3_init_7 : decode cX3_init 7 = .ok (.newarray .int, 2) := by decide +kernel
theorem dX3_init_9 : decode cX3_init 9 = .ok (.putfield 9, 3) := by decide +kernel
theorem dX3_init_12 : decode cX3_init 12 = .ok (.aload_n 0, 1) := by decide +kernel
theorem dX3_init_13 : decode cX3_init 13 = .ok (.bipush 10, 2) := by decide +kernel
theorem dX3_init_15 : decode cX3_init 15 = .ok (.putfield 15, 3) := by decide +kernel
theorem dX3_init_18 : decode cX3_init 18 = .ok (.return_, 1) := by decide +kernel
theorem dX3_takeOver_0 : decode cX3_takeOver 0 = .ok (.aload_n 1, 1) := by decide +kernel
theorem dX3_takeOver_1 : decode cX3_takeOver 1 = .ok (.getfield 9, 3) := by decide +kernel
theorem dX3_takeOver_4 : decode cX3_takeOver 4 = .ok (.aload_n 0, 1) := by decide +kernel
theorem dX3_takeOver_5 : decode cX3_takeOver 5 = .ok (.getfield 9, 3) := by decide +kernel
theorem dX3_takeOver_8 : decode cX3_takeOver 8 = .ok (.invokestatic 19, 3) := by decide +kernel
theorem dX3_takeOver_11 : decode cX3_takeOver 11 = .ok (.aload_n 0, 1) := by decide +kernel
theorem dX3_takeOver_12 : decode cX3_takeOver 12 = .ok (.aload_n 1, 1) := by decide +kernel
theorem dX3_takeOver_13 : decode cX3_takeOver 13 = .ok (.getfield 15, 3) := by decide +kernel
theorem dX3_takeOver_16 : decode cX3_takeOver 16 = .ok (.putfield 15, 3) := by decide +kernel
theorem dX3_takeOver_19 : decode cX3_takeOver 19 = .ok (.return_, 1) := by decide +kernel
theorem dX3_isLike_0 : decode cX3_isLike 0 = .ok (.aload_n 0, 1) := by decide +kernel
theorem dX3_isLike_1 : decode cX3_isLike 1 = .ok (.getfield 15, 3) := by decide +kernel
theorem dX3_isLike_4 : decode cX3_isLike 4 = .ok (.aload_n 1, 1) := by decide +kernel
theorem dX3_isLike_5 : decode cX3_isLike 5 = .ok (.getfield 15, 3) := by decide +kernel
theorem dX3_isLike_8 : decode cX3_isLike 8 = .ok (.if_icmp .ne 7, 3) := by decide +kernel
theorem dX3_isLike_11 : decode cX3_isLike 11 = .ok (.iconst 1, 1) := by decide +kernel
theorem dX3_isLike_12 : decode cX3_isLike 12 = .ok (.goto 4, 3) := by decide +kernel
theorem dX3_isLike_15 : decode cX3_isLike 15 = .ok (.iconst 0, 1) := by decide +kernel
theorem dX3_isLike_16 : decode cX3_isLike 16 = .ok (.istore_n 2, 1) := by decide +kernel
theorem dX3_isLike_17 : decode cX3_isLike 17 = .ok (.iconst 1, 1) := by decide +kernel
theorem dX3_isLike_18 : decode cX3_isLike 18 = .ok (.istore_n 3, 1) := by decide +kernel
theorem dX3_isLike_19 : decode cX3_isLike 19 = .ok (.iload_n 3, 1) := by decide +kernel
theorem dX3_isLike_20 : decode cX3_isLike 20 = .ok (.bipush 14, 2) := by decide +kernel
theorem dX3_isLike_22 : decode cX3_isLike 22 = .ok (.if_icmp .gt 40, 3) := by decide +kernel
theorem dX3_isLike_25 : decode cX3_isLike 25 = .ok (.iload_n 3, 1) := by decide +kernel
theorem dX3_isLike_26 : decode cX3_isLike 26 = .ok (.aload_n 0, 1) := by decide +kernel
theorem dX3_isLike_27 : decode cX3_isLike 27 = .ok (.getfield 15, 3) := by decide +kernel
theorem dX3_isLike_30 : decode cX3_isLike 30 = .ok (.if_icmp .gt 32, 3) := by decide +kernel
theorem dX3_isLike_33 : decode cX3_isLike 33 = .ok (.iload_n 2, 1) := by decide +kernel
theorem dX3_isLike_34 : decode cX3_isLike 34 = .ok (.ifCond .eq 28, 3) := by decide +kernel
theorem dX3_isLike_37 : decode cX3_isLike 37 = .ok (.aload_n 0, 1) := by decide +kernel
theorem dX3_isLike_38 : decode cX3_isLike 38 = .ok (.iload_n 3, 1) := by decide +kernel
theorem dX3_isLike_39 : decode cX3_isLike 39 = .ok (.invokevirtual 23, 3) := by decide +kernel
theorem dX3_isLike_42 : decode cX3_isLike 42 = .ok (.aload_n 1, 1) := by decide +kernel
theorem dX3_isLike_43 : decode cX3_isLike 43 = .ok (.iload_n 3, 1) := by decide +kernel
theorem dX3_isLike_44 : decode cX3_isLike 44 = .ok (.invokevirtual 23, 3) := by decide +kernel
theorem dX3_isLike_47 : decode cX3_isLike 47 = .ok (.if_icmp .ne 7, 3) := by decide +kernel
theorem dX3_isLike_50 : decode cX3_isLike 50 = .ok (.iconst 1, 1) := by decide +kernel
theorem dX3_isLike_51 : decode cX3_isLike 51 = .ok (.goto 4, 3) := by decide +kernel
theorem dX3_isLike_54 : decode cX3_isLike 54 = .ok (.iconst 0, 1) := by decide +kernel
theorem dX3_isLike_55 : decode cX3_isLike 55 = .ok (.istore_n 2, 1) := by decide +kernel
theorem dX3_isLike_56 : decode cX3_isLike 56 = .ok (.iinc 3 1, 3) := by decide +kernel
theorem dX3_isLike_59 : decode cX3_isLike 59 = .ok (.goto (-40), 3) := by decide +kernel
theorem dX3_isLike_62 : decode cX3_isLike 62 = .ok (.iload_n 2, 1) := by decide +kernel
theorem dX3_isLike_63 : decode cX3_isLike 63 = .ok (.ireturn, 1) := by decide +kernel
theorem dX3_kindOf_0 : decode cX3_kindOf 0 = .ok (.iload_n 1, 1) := by decide +kernel
theorem dX3_kindOf_1 : decode cX3_kindOf 1 = .ok (.iconst 1, 1) := by decide +kernel
theorem dX3_kindOf_2 : decode cX3_kindOf 2 = .ok (.if_icmp .lt 29, 3) := by decide +kernel
theorem dX3_kindOf_5 : decode cX3_kindOf 5 = .ok (.iload_n 1, 1) := by decide +kernel
theorem dX3_kindOf_6 : decode cX3_kindOf 6 = .ok (.aload_n 0, 1) := by decide +kernel
theorem dX3_kindOf_7 : decode cX3_kindOf 7 = .ok (.getfield 15, 3) := by decide +kernel
theorem dX3_kindOf_10 : decode cX3_kindOf 10 = .ok (.if_icmp .gt 21, 3) := by decide +kernel
theorem dX3_kindOf_13 : decode cX3_kindOf 13 = .ok (.iload_n 1, 1) := by decide +kernel
theorem dX3_kindOf_14 : decode cX3_kindOf 14 = .ok (.aload_n 0, 1) := by decide +kernel
theorem dX3_kindOf_15 : decode cX3_kindOf 15 = .ok (.getfield 9, 3) := by decide +kernel
theorem dX3_kindOf_18 : decode cX3_kindOf 18 = .ok (.arraylength, 1) := by decide +kernel
theorem dX3_kindOf_19 : decode cX3_kindOf 19 = .ok (.if_icmp .ge 12, 3) := by decide +kernel
theorem dX3_kindOf_22 : decode cX3_kindOf 22 = .ok (.aload_n 0, 1) := by decide +kernel
theorem dX3_kindOf_23 : decode cX3_kindOf 23 = .ok (.getfield 9, 3) := by decide +kernel
theorem dX3_kindOf_26 : decode cX3_kindOf 26 = .ok (.iload_n 1, 1) := by decide +kernel
theorem dX3_kindOf_27 : decode cX3_kindOf 27 = .ok (.iaload, 1) := by decide +kernel
theorem dX3_kindOf_28 : decode cX3_kindOf 28 = .ok (.goto 4, 3) := by decide +kernel
theorem dX3_kindOf_31 : decode cX3_kindOf 31 = .ok (.iconst 0, 1) := by decide +kernel
theorem dX3_kindOf_32 : decode cX3_kindOf 32 = .ok (.ireturn, 1) := by decide +kernel
theorem dX3_howMany_0 : decode cX3_howMany 0 = .ok (.iconst 0, 1) := by decide +kernel
theorem dX3_howMany_1 : decode cX3_howMany 1 = .ok (.istore_n 2, 1) := by decide +kernel
theorem dX3_howMany_2 : decode cX3_howMany 2 = .ok (.iconst 1, 1) := by decide +kernel
theorem dX3_howMany_3 : decode cX3_howMany 3 = .ok (.istore_n 3, 1) := by decide +kernel
theorem dX3_howMany_4 : decode cX3_howMany 4 = .ok (.iload_n 3, 1) := by decide +kernel
theorem dX3_howMany_5 : decode cX3_howMany 5 = .ok (.bipush 14, 2) := by decide +kernel
theorem dX3_howMany_7 : decode cX3_howMany 7 = .ok (.if_icmp .gt 29, 3) := by decide +kernel
theorem dX3_howMany_10 : decode cX3_howMany 10 = .ok (.iload_n 3, 1) := by decide +kernel
theorem dX3_howMany_11 : decode cX3_howMany 11 = .ok (.aload_n 0, 1) := by decide +kernel
theorem dX3_howMany_12 : decode cX3_howMany 12 = .ok (.getfield 15, 3) := by decide +kernel
theorem dX3_howMany_15 : decode cX3_howMany 15 = .ok (.if_icmp .gt 21, 3) := by decide +kernel
theorem dX3_howMany_18 : decode cX3_howMany 18 = .ok (.aload_n 0, 1) := by decide +kernel
theorem dX3_howMany_19 : decode cX3_howMany 19 = .ok (.iload_n 3, 1) := by decide +kernel
theorem dX3_howMany_20 : decode cX3_howMany 20 = .ok (.invokevirtual 23, 3) := by decide +kernel
theorem dX3_howMany_23 : decode cX3_howMany 23 = .ok (.iload_n 1, 1) := by decide +kernel
theorem dX3_howMany_24 : decode cX3_howMany 24 = .ok (.if_icmp .ne 6, 3) := by decide +kernel
theorem dX3_howMany_27 : decode cX3_howMany 27 = .ok (.iinc 2 1, 3) := by decide +kernel
theorem dX3_howMany_30 : decode cX3_howMany 30 = .ok (.iinc 3 1, 3) := by decide +kernel
theorem dX3_howMany_33 : decode cX3_howMany 33 = .ok (.goto (-29), 3) := by decide +kernel
theorem dX3_howMany_36 : decode cX3_howMany 36 = .ok (.iload_n 2, 1) := by decide +kernel
theorem dX3_howMany_37 : decode cX3_howMany 37 = .ok (.ireturn, 1) := by decide +kernel
theorem dX3_isEnd_0 : decode cX3_isEnd 0 = .ok (.iload_n 1, 1) := by decide +kernel
theorem dX3_isEnd_1 : decode cX3_isEnd 1 = .ok (.aload_n 0, 1) := by decide +kernel
theorem dX3_isEnd_2 : decode cX3_isEnd 2 = .ok (.getfield 15, 3) := by decide +kernel
theorem dX3_isEnd_5 : decode cX3_isEnd 5 = .ok (.if_icmp .le 7, 3) := by decide +kernel
theorem dX3_isEnd_8 : decode cX3_isEnd 8 = .ok (.iconst 1, 1) := by decide +kernel
theorem dX3_isEnd_9 : decode cX3_isEnd 9 = .ok (.goto 4, 3) := by decide +kernel
theorem dX3_isEnd_12 : decode cX3_isEnd 12 = .ok (.iconst 0, 1) := by decide +kernel
theorem dX3_isEnd_13 : decode cX3_isEnd 13 = .ok (.ireturn, 1) := by decide +kernel
theorem dX3_next_0 : decode cX3_next 0 = .ok (.iload_n 1, 1) := by decide +kernel
theorem dX3_next_1 : decode cX3_next 1 = .ok (.iconst 1, 1) := by decide +kernel
theorem dX3_next_2 : decode cX3_next 2 = .ok (.iadd, 1) := by decide +kernel
theorem dX3_next_3 : decode cX3_next 3 = .ok (.iload_n 2, 1) := by decide +kernel
theorem dX3_next_4 : decode cX3_next 4 = .ok (.if_icmp .ne 9, 3) := by decide +kernel
theorem dX3_next_7 : decode cX3_next 7 = .ok (.iload_n 1, 1) := by decide +kernel
theorem dX3_next_8 : decode cX3_next 8 = .ok (.iconst 2, 1) := by decide +kernel
theorem dX3_next_9 : decode cX3_next 9 = .ok (.iadd, 1) := by decide +kernel
theorem dX3_next_10 : decode cX3_next 10 = .ok (.goto 6, 3) := by decide +kernel
theorem dX3_next_13 : decode cX3_next 13 = .ok (.iload_n 1, 1) := by decide +kernel
theorem dX3_next_14 : decode cX3_next 14 = .ok (.iconst 1, 1) := by decide +kernel
theorem dX3_next_15 : decode cX3_next 15 = .ok (.iadd, 1) := by decide +kernel
theorem dX3_next_16 : decode cX3_next 16 = .ok (.ireturn, 1) := by decide +kernel
theorem dX3_landing_0 : decode cX3_landing 0 = .ok (.iload_n 1, 1) := by decide +kernel
theorem dX3_landing_1 : decode cX3_landing 1 = .ok (.iload_n 2, 1) := by decide +kernel
theorem dX3_landing_2 : decode cX3_landing 2 = .ok (.if_icmp .ge 14, 3) := by decide +kernel
theorem dX3_landing_5 : decode cX3_landing 5 = .ok (.iload_n 2, 1) := by decide +kernel
theorem dX3_landing_6 : decode cX3_landing 6 = .ok (.iload_n 1, 1) := by decide +kernel
theorem dX3_landing_7 : decode cX3_landing 7 = .ok (.iload_n 3, 1) := by decide +kernel
theorem dX3_landing_8 : decode cX3_landing 8 = .ok (.iadd, 1) := by decide +kernel
theorem dX3_landing_9 : decode cX3_landing 9 = .ok (.if_icmp .gt 7, 3) := by decide +kernel
theorem dX3_landing_12 : decode cX3_landing 12 = .ok (.iconst 1, 1) := by decide +kernel
theorem dX3_landing_13 : decode cX3_landing 13 = .ok (.goto 4, 3) := by decide +kernel
theorem dX3_landing_16 : decode cX3_landing 16 = .ok (.iconst 0, 1) := by decide +kernel
theorem dX3_landing_17 : decode cX3_landing 17 = .ok (.istore 4, 2) := by decide +kernel
theorem dX3_landing_19 : decode cX3_landing 19 = .ok (.iload 4, 2) := by decide +kernel
theorem dX3_landing_21 : decode cX3_landing 21 = .ok (.ifCond .eq 11, 3) := by decide +kernel
theorem dX3_landing_24 : decode cX3_landing 24 = .ok (.iload_n 1, 1) := by decide +kernel
theorem dX3_landing_25 : decode cX3_landing 25 = .ok (.iload_n 3, 1) := by decide +kernel
theorem dX3_landing_26 : decode cX3_landing 26 = .ok (.iadd, 1) := by decide +kernel
theorem dX3_landing_27 : decode cX3_landing 27 = .ok (.iconst 1, 1) := by decide +kernel
theorem dX3_landing_28 : decode cX3_landing 28 = .ok (.iadd, 1) := by decide +kernel
theorem dX3_landing_29 : decode cX3_landing 29 = .ok (.goto 6, 3) := by decide +kernel
theorem dX3_landing_32 : decode cX3_landing 32 = .ok (.iload_n 1, 1) := by decide +kernel
theorem dX3_landing_33 : decode cX3_landing 33 = .ok (.iload_n 3, 1) := by decide +kernel
theorem dX3_landing_34 : decode cX3_landing 34 = .ok (.iadd, 1) := by decide +kernel
theorem dX3_landing_35 : decode cX3_landing 35 = .ok (.istore 5, 2) := by decide +kernel
theorem dX3_landing_37 : decode cX3_landing 37 = .ok (.iload 5, 2) := by decide +kernel
theorem dX3_landing_39 : decode cX3_landing 39 = .ok (.aload_n 0, 1) := by decide +kernel
theorem dX3_landing_40 : decode cX3_landing 40 = .ok (.getfield 15, 3) := by decide +kernel
theorem dX3_landing_43 : decode cX3_landing 43 = .ok (.if_icmp .le 12, 3) := by decide +kernel
theorem dX3_landing_46 : decode cX3_landing 46 = .ok (.aload_n 0, 1) := by decide +kernel
theorem dX3_landing_47 : decode cX3_landing 47 = .ok (.getfield 15, 3) := by decide +kernel
theorem dX3_landing_50 : decode cX3_landing 50 = .ok (.iconst 1, 1) := by decide +kernel
theorem dX3_landing_51 : decode cX3_landing 51 = .ok (.iadd, 1) := by decide +kernel
theorem dX3_landing_52 : decode cX3_landing 52 = .ok (.goto 5, 3) := by decide +kernel
theorem dX3_landing_55 : decode cX3_landing 55 = .ok (.iload 5, 2) := by decide +kernel
theorem dX3_landing_57 : decode cX3_landing 57 = .ok (.ireturn, 1) := by decide +kernel
theorem dX3_rest_0 : decode cX3_rest 0 = .ok (.aload_n 0, 1) := by decide +kernel
theorem dX3_rest_1 : decode cX3_rest 1 = .ok (.iload_n 1, 1) := by decide +kernel
theorem dX3_rest_2 : decode cX3_rest 2 = .ok (.iload_n 2, 1) := by decide +kernel
theorem dX3_rest_3 : decode cX3_rest 3 = .ok (.iload_n 3, 1) := by decide +kernel
theorem dX3_rest_4 : decode cX3_rest 4 = .ok (.invokevirtual 27, 3) := by decide +kernel
theorem dX3_rest_7 : decode cX3_rest 7 = .ok (.istore 4, 2) := by decide +kernel
theorem dX3_rest_9 : decode cX3_rest 9 = .ok (.iconst 0, 1) := by decide +kernel
theorem dX3_rest_10 : decode cX3_rest 10 = .ok (.istore 5, 2) := by decide +kernel
theorem dX3_rest_12 : decode cX3_rest 12 = .ok (.iload 5, 2) := by decide +kernel
theorem dX3_rest_14 : decode cX3_rest 14 = .ok (.bipush 14, 2) := by decide +kernel
theorem dX3_rest_16 : decode cX3_rest 16 = .ok (.if_icmp .ge 28, 3) := by decide +kernel
theorem dX3_rest_19 : decode cX3_rest 19 = .ok (.aload_n 0, 1) := by decide +kernel
theorem dX3_rest_20 : decode cX3_rest 20 = .ok (.iload 4, 2) := by decide +kernel
theorem dX3_rest_22 : decode cX3_rest 22 = .ok (.invokevirtual 23, 3) := by decide +kernel
theorem dX3_rest_25 : decode cX3_rest 25 = .ok (.iconst 2, 1) := by decide +kernel
theorem dX3_rest_26 : decode cX3_rest 26 = .ok (.if_icmp .ne 18, 3) := by decide +kernel
theorem dX3_rest_29 : decode cX3_rest 29 = .ok (.aload_n 0, 1) := by decide +kernel
theorem dX3_rest_30 : decode cX3_rest 30 = .ok (.iload 4, 2) := by decide +kernel
theorem dX3_rest_32 : decode cX3_rest 32 = .ok (.iload_n 2, 1) := by decide +kernel
theorem dX3_rest_33 : decode cX3_rest 33 = .ok (.invokevirtual 31, 3) := by decide +kernel
theorem dX3_rest_36 : decode cX3_rest 36 = .ok (.istore 4, 2) := by decide +kernel
theorem dX3_rest_38 : decode cX3_rest 38 = .ok (.iinc 5 1, 3) := by decide +kernel
theorem dX3_rest_41 : decode cX3_rest 41 = .ok (.goto (-29), 3) := by decide +kernel
theorem dX3_rest_44 : decode cX3_rest 44 = .ok (.iload 4, 2) := by decide +kernel
theorem dX3_rest_46 : decode cX3_rest 46 = .ok (.ireturn, 1) := by decide +kernel
theorem dX4_init_0 : decode cX4_init 0 = .ok (.aload_n 0, 1) := by decide +kernel
theorem dX4_init_1 : decode cX4_init 1 = .ok (.invokespecial 3, 3) := by decide +kernel
theorem dX4_init_4 : decode cX4_init 4 = .ok (.aload_n 0, 1) := by decide +kernel
theorem dX4_init_5 : decode cX4_init 5 = .ok (.bipush 15, 2) := by decide +kernel
theorem dX4_init_7 : decode cX4_init 7 = .ok (.newarray .int, 2) := by decide +kernel
theorem dX4_init_9 : decode cX4_init 9 = .ok (.putfield 9, 3) := by decide +kernel
theorem dX4_init_12 : decode cX4_init 12 = .ok (.return_, 1) := by decide +kernel
theorem dX4_begin_0 : decode cX4_begin 0 = .ok (.aload_n 0, 1) := by decide +kernel
theorem dX4_begin_1 : decode cX4_begin 1 = .ok (.getfield 9, 3) := by decide +kernel
theorem dX4_begin_4 : decode cX4_begin 4 = .ok (.iconst 0, 1) := by decide +kernel
theorem dX4_begin_5 : decode cX4_begin 5 = .ok (.invokestatic 15, 3) := by decide +kernel
theorem dX4_begin_8 : decode cX4_begin 8 = .ok (.aload_n 0, 1) := by decide +kernel
theorem dX4_begin_9 : decode cX4_begin 9 = .ok (.iconst 0, 1) := by decide +kernel
theorem dX4_begin_10 : decode cX4_begin 10 = .ok (.putfield 19, 3) := by decide +kernel
theorem dX4_begin_13 : decode cX4_begin 13 = .ok (.aload_n 0, 1) := by decide +kernel
theorem dX4_begin_14 : decode cX4_begin 14 = .ok (.iconst 1, 1) := by decide +kernel
theorem dX4_begin_15 : decode cX4_begin 15 = .ok (.putfield 23, 3) := by decide +kernel
theorem dX4_begin_18 : decode cX4_begin 18 = .ok (.aload_n 0, 1) := by decide +kernel
theorem dX4_begin_19 : decode cX4_begin 19 = .ok (.iconst 0, 1) := by decide +kernel
theorem dX4_begin_20 : decode cX4_begin 20 = .ok (.putfield 27, 3) := by decide +kernel
theorem dX4_begin_23 : decode cX4_begin 23 = .ok (.aload_n 0, 1) := by decide +kernel
theorem dX4_begin_24 : decode cX4_begin 24 = .ok (.iconst 0, 1) := by decide +kernel
theorem dX4_begin_25 : decode cX4_begin 25 = .ok (.putfield 30, 3) := by decide +kernel
theorem dX4_begin_28 : decode cX4_begin 28 = .ok (.aload_n 0, 1) := by decide +kernel
theorem dX4_begin_29 : decode cX4_begin 29 = .ok (.iconst 0, 1) := by decide +kernel
theorem dX4_begin_30 : decode cX4_begin 30 = .ok (.putfield 33, 3) := by decide +kernel
theorem dX4_begin_33 : decode cX4_begin 33 = .ok (.aload_n 0, 1) := by decide +kernel
theorem dX4_begin_34 : decode cX4_begin 34 = .ok (.iconst 0, 1) := by decide +kernel
theorem dX4_begin_35 : decode cX4_begin 35 = .ok (.putfield 36, 3) := by decide +kernel
theorem dX4_begin_38 : decode cX4_begin 38 = .ok (.aload_n 0, 1) := by decide +kernel
theorem dX4_begin_39 : decode cX4_begin 39 = .ok (.iconst 0, 1) := by decide +kernel
theorem dX4_begin_40 : decode cX4_begin 40 = .ok (.putfield 39, 3) := by decide +kernel
theorem dX4_begin_43 : decode cX4_begin 43 = .ok (.aload_n 0, 1) := by decide +kernel
theorem dX4_begin_44 : decode cX4_begin 44 = .ok (.iconst 0, 1) := by decide +kernel
theorem dX4_begin_45 : decode cX4_begin 45 = .ok (.putfield 42, 3) := by decide +kernel
theorem dX4_begin_48 : decode cX4_begin 48 = .ok (.return_, 1) := by decide +kernel
theorem dX4_takeOver_0 : decode cX4_takeOver 0 = .ok (.aload_n 1, 1) := by decide +kernel
theorem dX4_takeOver_1 : decode cX4_takeOver 1 = .ok (.getfield 9, 3) := by decide +kernel
theorem dX4_takeOver_4 : decode cX4_takeOver 4 = .ok (.aload_n 0, 1) := by decide +kernel
theorem dX4_takeOver_5 : decode cX4_takeOver 5 = .ok (.getfield 9, 3) := by decide +kernel
theorem dX4_takeOver_8 : decode cX4_takeOver 8 = .ok (.invokestatic 45, 3) := by decide +kernel
theorem dX4_takeOver_11 : decode cX4_takeOver 11 = .ok (.aload_n 0, 1) := by decide +kernel
theorem dX4_takeOver_12 : decode cX4_takeOver 12 = .ok (.aload_n 1, 1) := by decide +kernel
theorem dX4_takeOver_13 : decode cX4_takeOver 13 = .ok (.getfield 19, 3) := by decide +kernel
theorem dX4_takeOver_16 : decode cX4_takeOver 16 = .ok (.putfield 19, 3) := by decide +kernel
theorem dX4_takeOver_19 : decode cX4_takeOver 19 = .ok (.aload_n 0, 1) := by decide +kernel
theorem dX4_takeOver_20 : decode cX4_takeOver 20 = .ok (.aload_n 1, 1) := by decide +kernel
theorem dX4_takeOver_21 : decode cX4_takeOver 21 = .ok (.getfield 23, 3) := by decide +kernel
theorem dX4_takeOver_24 : decode cX4_takeOver 24 = .ok (.putfield 23, 3) := by decide +kernel
theorem dX4_takeOver_27 : decode cX4_takeOver 27 = .ok (.aload_n 0, 1) := by decide +kernel
theorem dX4_takeOver_28 : decode cX4_takeOver 28 = .ok (.aload_n 1, 1) := by decide +kernel
theorem dX4_takeOver_29 : decode cX4_takeOver 29 = .ok (.getfield 27, 3) := by decide +kernel
theorem dX4_takeOver_32 : decode cX4_takeOver 32 = .ok (.putfield 27, 3) := by decide +kernel
theorem dX4_takeOver_35 : decode cX4_takeOver 35 = .ok (.aload_n 0, 1) := by decide +kernel
theorem dX4_takeOver_36 : decode cX4_takeOver 36 = .ok (.aload_n 1, 1) := by decide +kernel
theorem dX4_takeOver_37 : decode cX4_takeOver 37 = .ok (.getfield 30, 3) := by decide +kernel
theorem dX4_takeOver_40 : decode cX4_takeOver 40 = .ok (.putfield 30, 3) := by decide +kernel
theorem dX4_takeOver_43 : decode cX4_takeOver 43 = .ok (.aload_n 0, 1) := by decide +kernel
theorem dX4_takeOver_44 : decode cX4_takeOver 44 = .ok (.aload_n 1, 1) := by decide +kernel
theorem dX4_takeOver_45 : decode cX4_takeOver 45 = .ok (.getfield 33, 3) := by decide +kernel
theorem dX4_takeOver_48 : decode cX4_takeOver 48 = .ok (.putfield 33, 3) := by decide +kernel
theorem dX4_takeOver_51 : decode cX4_takeOver 51 = .ok (.aload_n 0, 1) := by decide +kernel
theorem dX4_takeOver_52 : decode cX4_takeOver 52 = .ok (.aload_n 1, 1) := by decide +kernel
theorem dX4_takeOver_53 : decode cX4_takeOver 53 = .ok (.getfield 36, 3) := by decide +kernel
theorem dX4_takeOver_56 : decode cX4_takeOver 56 = .ok (.putfield 36, 3) := by decide +kernel
theorem dX4_takeOver_59 : decode cX4_takeOver 59 = .ok (.aload_n 0, 1) := by decide +kernel
theorem dX4_takeOver_60 : decode cX4_takeOver 60 = .ok (.aload_n 1, 1) := by decide +kernel
theorem dX4_takeOver_61 : decode cX4_takeOver 61 = .ok (.getfield 39, 3) := by decide +kernel
theorem dX4_takeOver_64 : decode cX4_takeOver 64 = .ok (.putfield 39, 3) := by decide +kernel
theorem dX4_takeOver_67 : decode cX4_takeOver 67 = .ok (.aload_n 0, 1) := by decide +kernel
theorem dX4_takeOver_68 : decode cX4_takeOver 68 = .ok (.aload_n 1, 1) := by decide +kernel
theorem dX4_takeOver_69 : decode cX4_takeOver 69 = .ok (.getfield 42, 3) := by decide +kernel
theorem dX4_takeOver_72 : decode cX4_takeOver 72 = .ok (.putfield 42, 3) := by decide +kernel
theorem dX4_takeOver_75 : decode cX4_takeOver 75 = .ok (.return_, 1) := by decide +kernel
theorem dX4_property_0 : decode cX4_property 0 = .ok (.iload_n 1, 1) := by decide +kernel
theorem dX4_property_1 : decode cX4_property 1 = .ok (.tableswitch 95 0 7 #[47, 52, 65, 70, 75, 80, 85, 90], 47) := by decide +kernel
theorem dX4_property_48 : decode cX4_property 48 = .ok (.aload_n 0, 1) := by decide +kernel
theorem dX4_property_49 : decode cX4_property 49 = .ok (.getfield 19, 3) := by decide +kernel
theorem dX4_property_52 : decode cX4_property 52 = .ok (.ireturn, 1) := by decide +kernel
theorem dX4_property_53 : decode cX4_property 53 = .ok (.aload_n 0, 1) := by decide +kernel
theorem dX4_property_54 : decode cX4_property 54 = .ok (.getfield 23, 3) := by decide +kernel
theorem dX4_property_57 : decode cX4_property 57 = .ok (.ifCond .eq 7, 3) := by decide +kernel
theorem dX4_property_60 : decode cX4_property 60 = .ok (.iconst 1, 1) := by decide +kernel
theorem dX4_property_61 : decode cX4_property 61 = .ok (.goto 4, 3) := by decide +kernel
theorem dX4_property_64 : decode cX4_property 64 = .ok (.iconst 0, 1) := by decide +kernel
theorem dX4_property_65 : decode cX4_property 65 = .ok (.ireturn, 1) := by decide +kernel
theorem dX4_property_66 : decode cX4_property 66 = .ok (.aload_n 0, 1) := by decide +kernel
theorem dX4_property_67 : decode cX4_property 67 = .ok (.getfield 27, 3) := by decide +kernel
theorem dX4_property_70 : decode cX4_property 70 = .ok (.ireturn, 1) := by decide +kernel
theorem dX4_property_71 : decode cX4_property 71 = .ok (.aload_n 0, 1) := by decide +kernel
theorem dX4_property_72 : decode cX4_property 72 = .ok (.getfield 30, 3) := by decide +kernel
theorem dX4_property_75 : decode cX4_property 75 = .ok (.ireturn, 1) := by decide +kernel
theorem dX4_property_76 : decode cX4_property 76 = .ok (.aload_n 0, 1) := by decide +kernel
theorem dX4_property_77 : decode cX4_property 77 = .ok (.getfield 33, 3) := by decide +kernel
theorem dX4_property_80 : decode cX4_property 80 = .ok (.ireturn, 1) := by decide +kernel
theorem dX4_property_81 : decode cX4_property 81 = .ok (.aload_n 0, 1) := by decide +kernel
theorem dX4_property_82 : decode cX4_property 82 = .ok (.getfield 36, 3) := by decide +kernel
theorem dX4_property_85 : decode cX4_property 85 = .ok (.ireturn, 1) := by decide +kernel
theorem dX4_property_86 : decode cX4_property 86 = .ok (.aload_n 0, 1) := by decide +kernel
theorem dX4_property_87 : decode cX4_property 87 = .ok (.getfield 39, 3) := by decide +kernel
theorem dX4_property_90 : decode cX4_property 90 = .ok (.ireturn, 1) := by decide +kernel
theorem dX4_property_91 : decode cX4_property 91 = .ok (.aload_n 0, 1) := by decide +kernel
theorem dX4_property_92 : decode cX4_property 92 = .ok (.getfield 42, 3) := by decide +kernel
theorem dX4_property_95 : decode cX4_property 95 = .ok (.ireturn, 1) := by decide +kernel
theorem dX4_property_96 : decode cX4_property 96 = .ok (.iconst (-1), 1) := by decide +kernel
theorem dX4_property_97 : decode cX4_property 97 = .ok (.ireturn, 1) := by decide +kernel
theorem dX4_standOn_0 : decode cX4_standOn 0 = .ok (.aload_n 0, 1) := by decide +kernel
theorem dX4_standOn_1 : decode cX4_standOn 1 = .ok (.iload_n 1, 1) := by decide +kernel
theorem dX4_standOn_2 : decode cX4_standOn 2 = .ok (.putfield 19, 3) := by decide +kernel
theorem dX4_standOn_5 : decode cX4_standOn 5 = .ok (.aload_n 0, 1) := by decide +kernel
theorem dX4_standOn_6 : decode cX4_standOn 6 = .ok (.getfield 9, 3) := by decide +kernel
theorem dX4_standOn_9 : decode cX4_standOn 9 = .ok (.iload_n 1, 1) := by decide +kernel
theorem dX4_standOn_10 : decode cX4_standOn 10 = .ok (.aload_n 0, 1) := by decide +kernel
theorem dX4_standOn_11 : decode cX4_standOn 11 = .ok (.getfield 9, 3) := by decide +kernel
theorem dX4_standOn_14 : decode cX4_standOn 14 = .ok (.iload_n 1, 1) := by decide +kernel
theorem dX4_standOn_15 : decode cX4_standOn 15 = .ok (.invokestatic 49, 3) := by decide +kernel
theorem dX4_standOn_18 : decode cX4_standOn 18 = .ok (.iconst 1, 1) := by decide +kernel
theorem dX4_standOn_19 : decode cX4_standOn 19 = .ok (.iadd, 1) := by decide +kernel
theorem dX4_standOn_20 : decode cX4_standOn 20 = .ok (.invokestatic 53, 3) := by decide +kernel
theorem dX4_standOn_23 : decode cX4_standOn 23 = .ok (.return_, 1) := by decide +kernel
theorem dX4_driveOn_0 : decode cX4_driveOn 0 = .ok (.aload_n 0, 1) := by decide +kernel
theorem dX4_driveOn_1 : decode cX4_driveOn 1 = .ok (.getfield 19, 3) := by decide +kernel
theorem dX4_driveOn_4 : decode cX4_driveOn 4 = .ok (.istore 4, 2) := by decide +kernel
theorem dX4_driveOn_6 : decode cX4_driveOn 6 = .ok (.aload_n 0, 1) := by decide +kernel
theorem dX4_driveOn_7 : decode cX4_driveOn 7 = .ok (.aload_n 1, 1) := by decide +kernel
theorem dX4_driveOn_8 : decode cX4_driveOn 8 = .ok (.iload 4, 2) := by decide +kernel
theorem dX4_driveOn_10 : decode cX4_driveOn 10 = .ok (.iload_n 2, 1) := by decide +kernel
theorem dX4_driveOn_11 : decode cX4_driveOn 11 = .ok (.iload_n 3, 1) := by decide +kernel
theorem dX4_driveOn_12 : decode cX4_driveOn 12 = .ok (.invokevirtual 57, 3) := by decide +kernel
theorem dX4_driveOn_15 : decode cX4_driveOn 15 = .ok (.invokevirtual 63, 3) := by decide +kernel
theorem dX4_driveOn_18 : decode cX4_driveOn 18 = .ok (.iconst 0, 1) := by decide +kernel
theorem dX4_driveOn_19 : decode cX4_driveOn 19 = .ok (.istore 5, 2) := by decide +kernel
theorem dX4_driveOn_21 : decode cX4_driveOn 21 = .ok (.iload 5, 2) := by decide +kernel
theorem dX4_driveOn_23 : decode cX4_driveOn 23 = .ok (.bipush 14, 2) := by decide +kernel
theorem dX4_driveOn_25 : decode cX4_driveOn 25 = .ok (.if_icmp .ge 44, 3) := by decide +kernel
theorem dX4_driveOn_28 : decode cX4_driveOn 28 = .ok (.aload_n 1, 1) := by decide +kernel
theorem dX4_driveOn_29 : decode cX4_driveOn 29 = .ok (.aload_n 0, 1) := by decide +kernel
theorem dX4_driveOn_30 : decode cX4_driveOn 30 = .ok (.getfield 19, 3) := by decide +kernel
theorem dX4_driveOn_33 : decode cX4_driveOn 33 = .ok (.invokevirtual 67, 3) := by decide +kernel
theorem dX4_driveOn_36 : decode cX4_driveOn 36 = .ok (.iconst 2, 1) := by decide +kernel
theorem dX4_driveOn_37 : decode cX4_driveOn 37 = .ok (.if_icmp .ne 32, 3) := by decide +kernel
theorem dX4_driveOn_40 : decode cX4_driveOn 40 = .ok (.aload_n 0, 1) := by decide +kernel
theorem dX4_driveOn_41 : decode cX4_driveOn 41 = .ok (.aload_n 1, 1) := by decide +kernel
theorem dX4_driveOn_42 : decode cX4_driveOn 42 = .ok (.aload_n 0, 1) := by decide +kernel
theorem dX4_driveOn_43 : decode cX4_driveOn 43 = .ok (.getfield 19, 3) := by decide +kernel
theorem dX4_driveOn_46 : decode cX4_driveOn 46 = .ok (.iload_n 2, 1) := by decide +kernel
theorem dX4_driveOn_47 : decode cX4_driveOn 47 = .ok (.invokevirtual 71, 3) := by decide +kernel
theorem dX4_driveOn_50 : decode cX4_driveOn 50 = .ok (.invokevirtual 63, 3) := by decide +kernel
theorem dX4_driveOn_53 : decode cX4_driveOn 53 = .ok (.aload_n 0, 1) := by decide +kernel
theorem dX4_driveOn_54 : decode cX4_driveOn 54 = .ok (.dup, 1) := by decide +kernel
theorem dX4_driveOn_55 : decode cX4_driveOn 55 = .ok (.getfield 42, 3) := by decide +kernel
theorem dX4_driveOn_58 : decode cX4_driveOn 58 = .ok (.iconst 1, 1) := by decide +kernel
theorem dX4_driveOn_59 : decode cX4_driveOn 59 = .ok (.iadd, 1) := by decide +kernel
theorem dX4_driveOn_60 : decode cX4_driveOn 60 = .ok (.putfield 42, 3) := by decide +kernel
theorem dX4_driveOn_63 : decode cX4_driveOn 63 = .ok (.iinc 5 1, 3) := by decide +kernel
theorem dX4_driveOn_66 : decode cX4_driveOn 66 = .ok (.goto (-45), 3) := by decide +kernel
theorem dX4_driveOn_69 : decode cX4_driveOn 69 = .ok (.iload 4, 2) := by decide +kernel
theorem dX4_driveOn_71 : decode cX4_driveOn 71 = .ok (.iload_n 2, 1) := by decide +kernel
theorem dX4_driveOn_72 : decode cX4_driveOn 72 = .ok (.if_icmp .ge 21, 3) := by decide +kernel
theorem dX4_driveOn_75 : decode cX4_driveOn 75 = .ok (.iload_n 2, 1) := by decide +kernel
theorem dX4_driveOn_76 : decode cX4_driveOn 76 = .ok (.aload_n 0, 1) := by decide +kernel
theorem dX4_driveOn_77 : decode cX4_driveOn 77 = .ok (.getfield 19, 3) := by decide +kernel
theorem dX4_driveOn_80 : decode cX4_driveOn 80 = .ok (.if_icmp .ge 13, 3) := by decide +kernel
theorem dX4_driveOn_83 : decode cX4_driveOn 83 = .ok (.aload_n 0, 1) := by decide +kernel
theorem dX4_driveOn_84 : decode cX4_driveOn 84 = .ok (.dup, 1) := by decide +kernel
theorem dX4_driveOn_85 : decode cX4_driveOn 85 = .ok (.getfield 36, 3) := by decide +kernel
theorem dX4_driveOn_88 : decode cX4_driveOn 88 = .ok (.iconst 1, 1) := by decide +kernel
theorem dX4_driveOn_89 : decode cX4_driveOn 89 = .ok (.iadd, 1) := by decide +kernel
theorem dX4_driveOn_90 : decode cX4_driveOn 90 = .ok (.putfield 36, 3) := by decide +kernel
theorem dX4_driveOn_93 : decode cX4_driveOn 93 = .ok (.aload_n 1, 1) := by decide +kernel
theorem dX4_driveOn_94 : decode cX4_driveOn 94 = .ok (.aload_n 0, 1) := by decide +kernel
theorem dX4_driveOn_95 : decode cX4_driveOn 95 = .ok (.getfield 19, 3) := by decide +kernel
theorem dX4_driveOn_98 : decode cX4_driveOn 98 = .ok (.invokevirtual 67, 3) := by decide +kernel
theorem dX4_driveOn_101 : decode cX4_driveOn 101 = .ok (.iconst 1, 1) := by decide +kernel
theorem dX4_driveOn_102 : decode cX4_driveOn 102 = .ok (.if_icmp .ne 13, 3) := by decide +kernel
theorem dX4_driveOn_105 : decode cX4_driveOn 105 = .ok (.aload_n 0, 1) := by decide +kernel
theorem dX4_driveOn_106 : decode cX4_driveOn 106 = .ok (.dup, 1) := by decide +kernel
theorem dX4_driveOn_107 : decode cX4_driveOn 107 = .ok (.getfield 27, 3) := by decide +kernel
theorem dX4_driveOn_110 : decode cX4_driveOn 110 = .ok (.iconst 1, 1) := by decide +kernel
theorem dX4_driveOn_111 : decode cX4_driveOn 111 = .ok (.iadd, 1) := by decide +kernel
theorem dX4_driveOn_112 : decode cX4_driveOn 112 = .ok (.putfield 27, 3) := by decide +kernel
theorem dX4_driveOn_115 : decode cX4_driveOn 115 = .ok (.aload_n 1, 1) := by decide +kernel
theorem dX4_driveOn_116 : decode cX4_driveOn 116 = .ok (.aload_n 0, 1) := by decide +kernel
theorem dX4_driveOn_117 : decode cX4_driveOn 117 = .ok (.getfield 19, 3) := by decide +kernel
theorem dX4_driveOn_120 : decode cX4_driveOn 120 = .ok (.invokevirtual 67, 3) := by decide +kernel
theorem dX4_driveOn_123 : decode cX4_driveOn 123 = .ok (.iconst 3, 1) := by decide +kernel
theorem dX4_driveOn_124 : decode cX4_driveOn 124 = .ok (.if_icmp .ne 8, 3) := by decide +kernel
theorem dX4_driveOn_127 : decode cX4_driveOn 127 = .ok (.aload_n 0, 1) := by decide +kernel
theorem dX4_driveOn_128 : decode cX4_driveOn 128 = .ok (.iconst 1, 1) := by decide +kernel
theorem dX4_driveOn_129 : decode cX4_driveOn 129 = .ok (.putfield 23, 3) := by decide +kernel
theorem dX4_driveOn_132 : decode cX4_driveOn 132 = .ok (.return_, 1) := by decide +kernel
theorem dX4_stopOther_0 : decode cX4_stopOther 0 = .ok (.aload_n 0, 1) := by decide +kernel
theorem dX4_stopOther_1 : decode cX4_stopOther 1 = .ok (.iconst 0, 1) := by decide +kernel
theorem dX4_stopOther_2 : decode cX4_stopOther 2 = .ok (.putfield 23, 3) := by decide +kernel
theorem dX4_stopOther_5 : decode cX4_stopOther 5 = .ok (.aload_n 0, 1) := by decide +kernel
theorem dX4_stopOther_6 : decode cX4_stopOther 6 = .ok (.dup, 1) := by decide +kernel
theorem dX4_stopOther_7 : decode cX4_stopOther 7 = .ok (.getfield 39, 3) := by decide +kernel
theorem dX4_stopOther_10 : decode cX4_stopOther 10 = .ok (.iconst 1, 1) := by decide +kernel
theorem dX4_stopOther_11 : decode cX4_stopOther 11 = .ok (.iadd, 1) := by decide +kernel
theorem dX4_stopOther_12 : decode cX4_stopOther 12 = .ok (.putfield 39, 3) := by decide +kernel
theorem dX4_stopOther_15 : decode cX4_stopOther 15 = .ok (.aload_n 1, 1) := by decide +kernel
theorem dX4_stopOther_16 : decode cX4_stopOther 16 = .ok (.iconst 3, 1) := by decide +kernel
theorem dX4_stopOther_17 : decode cX4_stopOther 17 = .ok (.aload_n 1, 1) := by decide +kernel
theorem dX4_stopOther_18 : decode cX4_stopOther 18 = .ok (.getfield 27, 3) := by decide +kernel
theorem dX4_stopOther_21 : decode cX4_stopOther 21 = .ok (.iload_n 2, 1) := by decide +kernel
theorem dX4_stopOther_22 : decode cX4_stopOther 22 = .ok (.iadd, 1) := by decide +kernel
theorem dX4_stopOther_23 : decode cX4_stopOther 23 = .ok (.invokestatic 75, 3) := by decide +kernel
theorem dX4_stopOther_26 : decode cX4_stopOther 26 = .ok (.putfield 27, 3) := by decide +kernel
theorem dX4_stopOther_29 : decode cX4_stopOther 29 = .ok (.return_, 1) := by decide +kernel
theorem dX4_loseTurn_0 : decode cX4_loseTurn 0 = .ok (.aload_n 0, 1) := by decide +kernel
theorem dX4_loseTurn_1 : decode cX4_loseTurn 1 = .ok (.dup, 1) := by decide +kernel
theorem dX4_loseTurn_2 : decode cX4_loseTurn 2 = .ok (.getfield 27, 3) := by decide +kernel
theorem dX4_loseTurn_5 : decode cX4_loseTurn 5 = .ok (.iconst 1, 1) := by decide +kernel
theorem dX4_loseTurn_6 : decode cX4_loseTurn 6 = .ok (.isub, 1) := by decide +kernel
theorem dX4_loseTurn_7 : decode cX4_loseTurn 7 = .ok (.putfield 27, 3) := by decide +kernel
theorem dX4_loseTurn_10 : decode cX4_loseTurn 10 = .ok (.aload_n 0, 1) := by decide +kernel
theorem dX4_loseTurn_11 : decode cX4_loseTurn 11 = .ok (.dup, 1) := by decide +kernel
theorem dX4_loseTurn_12 : decode cX4_loseTurn 12 = .ok (.getfield 33, 3) := by decide +kernel
theorem dX4_loseTurn_15 : decode cX4_loseTurn 15 = .ok (.iconst 1, 1) := by decide +kernel
theorem dX4_loseTurn_16 : decode cX4_loseTurn 16 = .ok (.iadd, 1) := by decide +kernel
theorem dX4_loseTurn_17 : decode cX4_loseTurn 17 = .ok (.putfield 33, 3) := by decide +kernel
theorem dX4_loseTurn_20 : decode cX4_loseTurn 20 = .ok (.return_, 1) := by decide +kernel
theorem dX5_init_0 : decode cX5_init 0 = .ok (.aload_n 0, 1) := by decide +kernel
theorem dX5_init_1 : decode cX5_init 1 = .ok (.invokespecial 3, 3) := by decide +kernel
theorem dX5_init_4 : decode cX5_init 4 = .ok (.aload_n 0, 1) := by decide +kernel
theorem dX5_init_5 : decode cX5_init 5 = .ok (.new 9, 3) := by decide +kernel
theorem dX5_init_8 : decode cX5_init 8 = .ok (.dup, 1) := by decide +kernel
theorem dX5_init_9 : decode cX5_init 9 = .ok (.invokespecial 11, 3) := by decide +kernel
theorem dX5_init_12 : decode cX5_init 12 = .ok (.putfield 12, 3) := by decide +kernel
theorem dX5_init_15 : decode cX5_init 15 = .ok (.aload_n 0, 1) := by decide +kernel
theorem dX5_init_16 : decode cX5_init 16 = .ok (.sipush 1024, 3) := by decide +kernel
theorem dX5_init_19 : decode cX5_init 19 = .ok (.newarray .int, 2) := by decide +kernel
theorem dX5_init_21 : decode cX5_init 21 = .ok (.putfield 18, 3) := by decide +kernel
theorem dX5_init_24 : decode cX5_init 24 = .ok (.aload_n 0, 1) := by decide +kernel
theorem dX5_init_25 : decode cX5_init 25 = .ok (.bipush 64, 2) := by decide +kernel
theorem dX5_init_27 : decode cX5_init 27 = .ok (.newarray .int, 2) := by decide +kernel
theorem dX5_init_29 : decode cX5_init 29 = .ok (.putfield 22, 3) := by decide +kernel
theorem dX5_init_32 : decode cX5_init 32 = .ok (.aload_n 0, 1) := by decide +kernel
theorem dX5_init_33 : decode cX5_init 33 = .ok (.sipush 16384, 3) := by decide +kernel
theorem dX5_init_36 : decode cX5_init 36 = .ok (.newarray .int, 2) := by decide +kernel
theorem dX5_init_38 : decode cX5_init 38 = .ok (.putfield 25, 3) := by decide +kernel
theorem dX5_init_41 : decode cX5_init 41 = .ok (.aload_n 0, 1) := by decide +kernel
theorem dX5_init_42 : decode cX5_init 42 = .ok (.sipush 16384, 3) := by decide +kernel
theorem dX5_init_45 : decode cX5_init 45 = .ok (.newarray .int, 2) := by decide +kernel
theorem dX5_init_47 : decode cX5_init 47 = .ok (.putfield 28, 3) := by decide +kernel
theorem dX5_init_50 : decode cX5_init 50 = .ok (.aload_n 0, 1) := by decide +kernel
theorem dX5_init_51 : decode cX5_init 51 = .ok (.sipush 16384, 3) := by decide +kernel
theorem dX5_init_54 : decode cX5_init 54 = .ok (.newarray .int, 2) := by decide +kernel
theorem dX5_init_56 : decode cX5_init 56 = .ok (.putfield 31, 3) := by decide +kernel
theorem dX5_init_59 : decode cX5_init 59 = .ok (.aload_n 0, 1) := by decide +kernel
theorem dX5_init_60 : decode cX5_init 60 = .ok (.iconst 0, 1) := by decide +kernel
theorem dX5_init_61 : decode cX5_init 61 = .ok (.putfield 34, 3) := by decide +kernel
theorem dX5_init_64 : decode cX5_init 64 = .ok (.aload_n 0, 1) := by decide +kernel
theorem dX5_init_65 : decode cX5_init 65 = .ok (.iconst 0, 1) := by decide +kernel
theorem dX5_init_66 : decode cX5_init 66 = .ok (.putfield 38, 3) := by decide +kernel
theorem dX5_init_69 : decode cX5_init 69 = .ok (.aload_n 0, 1) := by decide +kernel
theorem dX5_init_70 : decode cX5_init 70 = .ok (.iconst 0, 1) := by decide +kernel
theorem dX5_init_71 : decode cX5_init 71 = .ok (.putfield 41, 3) := by decide +kernel
theorem dX5_init_74 : decode cX5_init 74 = .ok (.aload_n 0, 1) := by decide +kernel
theorem dX5_init_75 : decode cX5_init 75 = .ok (.invokevirtual 44, 3) := by decide +kernel
theorem dX5_init_78 : decode cX5_init 78 = .ok (.return_, 1) := by decide +kernel
theorem dX5_orderTails_0 : decode cX5_orderTails 0 = .ok (.iconst 0, 1) := by decide +kernel
theorem dX5_orderTails_1 : decode cX5_orderTails 1 = .ok (.istore_n 1, 1) := by decide +kernel
theorem dX5_orderTails_2 : decode cX5_orderTails 2 = .ok (.iconst 0, 1) := by decide +kernel
theorem dX5_orderTails_3 : decode cX5_orderTails 3 = .ok (.istore_n 2, 1) := by decide +kernel
theorem dX5_orderTails_4 : decode cX5_orderTails 4 = .ok (.iload_n 2, 1) := by decide +kernel
theorem dX5_orderTails_5 : decode cX5_orderTails 5 = .ok (.iconst 2, 1) := by decide +kernel
theorem dX5_orderTails_6 : decode cX5_orderTails 6 = .ok (.if_icmp .gt 78, 3) := by decide +kernel
theorem dX5_orderTails_9 : decode cX5_orderTails 9 = .ok (.iconst 0, 1) := by decide +kernel
theorem dX5_orderTails_10 : decode cX5_orderTails 10 = .ok (.istore_n 3, 1) := by decide +kernel
theorem dX5_orderTails_11 : decode cX5_orderTails 11 = .ok (.iload_n 3, 1) := by decide +kernel
theorem dX5_orderTails_12 : decode cX5_orderTails 12 = .ok (.bipush 6, 2) := by decide +kernel
theorem dX5_orderTails_14 : decode cX5_orderTails 14 = .ok (.if_icmp .gt 64, 3) := by decide +kernel
theorem dX5_orderTails_17 : decode cX5_orderTails 17 = .ok (.iconst 0, 1) := by decide +kernel
theorem dX5_orderTails_18 : decode cX5_orderTails 18 = .ok (.istore 4, 2) := by decide +kernel
theorem dX5_orderTails_20 : decode cX5_orderTails 20 = .ok (.iload 4, 2) := by decide +kernel
theorem dX5_orderTails_22 : decode cX5_orderTails 22 = .ok (.bipush 64, 2) := by decide +kernel
theorem dX5_orderTails_24 : decode cX5_orderTails 24 = .ok (.if_icmp .ge 48, 3) := by decide +kernel
theorem dX5_orderTails_27 : decode cX5_orderTails 27 = .ok (.iload 4, 2) := by decide +kernel
theorem dX5_orderTails_29 : decode cX5_orderTails 29 = .ok (.iconst 4, 1) := by decide +kernel
theorem dX5_orderTails_30 : decode cX5_orderTails 30 = .ok (.ishr, 1) := by decide +kernel
theorem dX5_orderTails_31 : decode cX5_orderTails 31 = .ok (.invokestatic 47, 3) := by decide +kernel
theorem dX5_orderTails_34 : decode cX5_orderTails 34 = .ok (.iload_n 2, 1) := by decide +kernel
theorem dX5_orderTails_35 : decode cX5_orderTails 35 = .ok (.if_icmp .ne 31, 3) := by decide +kernel
theorem dX5_orderTails_38 : decode cX5_orderTails 38 = .ok (.iload 4, 2) := by decide +kernel
theorem dX5_orderTails_40 : decode cX5_orderTails 40 = .ok (.invokestatic 53, 3) := by decide +kernel
theorem dX5_orderTails_43 : decode cX5_orderTails 43 = .ok (.iload 4, 2) := by decide +kernel
theorem dX5_orderTails_45 : decode cX5_orderTails 45 = .ok (.invokestatic 56, 3) := by decide +kernel
theorem dX5_orderTails_48 : decode cX5_orderTails 48 = .ok (.iadd, 1) := by decide +kernel
theorem dX5_orderTails_49 : decode cX5_orderTails 49 = .ok (.iload_n 3, 1) := by decide +kernel
theorem dX5_orderTails_50 : decode cX5_orderTails 50 = .ok (.if_icmp .ne 16, 3) := by decide +kernel
theorem dX5_orderTails_53 : decode cX5_orderTails 53 = .ok (.aload_n 0, 1) := by decide +kernel
theorem dX5_orderTails_54 : decode cX5_orderTails 54 = .ok (.getfield 22, 3) := by decide +kernel
theorem dX5_orderTails_57 : decode cX5_orderTails 57 = .ok (.iload_n 1, 1) := by decide +kernel
theorem dX5_orderTails_58 : decode cX5_orderTails 58 = .ok (.iload 4, 2) := by decide +kernel
theorem dX5_orderTails_60 : decode cX5_orderTails 60 = .ok (.invokestatic 59, 3) := by decide +kernel
theorem dX5_orderTails_63 : decode cX5_orderTails 63 = .ok (.iinc 1 1, 3) := by decide +kernel
theorem dX5_orderTails_66 : decode cX5_orderTails 66 = .ok (.iinc 4 1, 3) := by decide +kernel
theorem dX5_orderTails_69 : decode cX5_orderTails 69 = .ok (.goto (-49), 3) := by decide +kernel
theorem dX5_orderTails_72 : decode cX5_orderTails 72 = .ok (.iinc 3 1, 3) := by decide +kernel
theorem dX5_orderTails_75 : decode cX5_orderTails 75 = .ok (.goto (-64), 3) := by decide +kernel
theorem dX5_orderTails_78 : decode cX5_orderTails 78 = .ok (.iinc 2 1, 3) := by decide +kernel
theorem dX5_orderTails_81 : decode cX5_orderTails 81 = .ok (.goto (-77), 3) := by decide +kernel
theorem dX5_orderTails_84 : decode cX5_orderTails 84 = .ok (.return_, 1) := by decide +kernel
theorem dX5_prepare_0 : decode cX5_prepare 0 = .ok (.aload_n 0, 1) := by decide +kernel
theorem dX5_prepare_1 : decode cX5_prepare 1 = .ok (.getfield 38, 3) := by decide +kernel
theorem dX5_prepare_4 : decode cX5_prepare 4 = .ok (.aload_n 1, 1) := by decide +kernel
theorem dX5_prepare_5 : decode cX5_prepare 5 = .ok (.getfield 63, 3) := by decide +kernel
theorem dX5_prepare_8 : decode cX5_prepare 8 = .ok (.if_icmp .ne 29, 3) := by decide +kernel
theorem dX5_prepare_11 : decode cX5_prepare 11 = .ok (.aload_n 0, 1) := by decide +kernel
theorem dX5_prepare_12 : decode cX5_prepare 12 = .ok (.getfield 41, 3) := by decide +kernel
theorem dX5_prepare_15 : decode cX5_prepare 15 = .ok (.aload_n 1, 1) := by decide +kernel
theorem dX5_prepare_16 : decode cX5_prepare 16 = .ok (.getfield 66, 3) := by decide +kernel
theorem dX5_prepare_19 : decode cX5_prepare 19 = .ok (.if_icmp .ne 18, 3) := by decide +kernel
theorem dX5_prepare_22 : decode cX5_prepare 22 = .ok (.aload_n 0, 1) := by decide +kernel
theorem dX5_prepare_23 : decode cX5_prepare 23 = .ok (.getfield 12, 3) := by decide +kernel
theorem dX5_prepare_26 : decode cX5_prepare 26 = .ok (.aload_n 1, 1) := by decide +kernel
theorem dX5_prepare_27 : decode cX5_prepare 27 = .ok (.getfield 67, 3) := by decide +kernel
theorem dX5_prepare_30 : decode cX5_prepare 30 = .ok (.invokevirtual 68, 3) := by decide +kernel
theorem dX5_prepare_33 : decode cX5_prepare 33 = .ok (.ifCond .eq 4, 3) := by decide +kernel
theorem dX5_prepare_36 : decode cX5_prepare 36 = .ok (.return_, 1) := by decide +kernel
theorem dX5_prepare_37 : decode cX5_prepare 37 = .ok (.aload_n 0, 1) := by decide +kernel
theorem dX5_prepare_38 : decode cX5_prepare 38 = .ok (.aload_n 1, 1) := by decide +kernel
theorem dX5_prepare_39 : decode cX5_prepare 39 = .ok (.getfield 63, 3) := by decide +kernel
theorem dX5_prepare_42 : decode cX5_prepare 42 = .ok (.putfield 38, 3) := by decide +kernel
theorem dX5_prepare_45 : decode cX5_prepare 45 = .ok (.aload_n 0, 1) := by decide +kernel
theorem dX5_prepare_46 : decode cX5_prepare 46 = .ok (.aload_n 1, 1) := by decide +kernel
theorem dX5_prepare_47 : decode cX5_prepare 47 = .ok (.getfield 66, 3) := by decide +kernel
theorem dX5_prepare_50 : decode cX5_prepare 50 = .ok (.putfield 41, 3) := by decide +kernel
theorem dX5_prepare_53 : decode cX5_prepare 53 = .ok (.aload_n 0, 1) := by decide +kernel
theorem dX5_prepare_54 : decode cX5_prepare 54 = .ok (.getfield 12, 3) := by decide +kernel
theorem dX5_prepare_57 : decode cX5_prepare 57 = .ok (.aload_n 1, 1) := by decide +kernel
theorem dX5_prepare_58 : decode cX5_prepare 58 = .ok (.getfield 67, 3) := by decide +kernel
theorem dX5_prepare_61 : decode cX5_prepare 61 = .ok (.invokevirtual 72, 3) := by decide +kernel
theorem dX5_prepare_64 : decode cX5_prepare 64 = .ok (.aload_n 0, 1) := by decide +kernel
theorem dX5_prepare_65 : decode cX5_prepare 65 = .ok (.invokevirtual 76, 3) := by decide +kernel
theorem dX5_prepare_68 : decode cX5_prepare 68 = .ok (.aload_n 0, 1) := by decide +kernel
theorem dX5_prepare_69 : decode cX5_prepare 69 = .ok (.getfield 25, 3) := by decide +kernel
theorem dX5_prepare_72 : decode cX5_prepare 72 = .ok (.iconst 0, 1) := by decide +kernel
theorem dX5_prepare_73 : decode cX5_prepare 73 = .ok (.invokestatic 79, 3) := by decide +kernel
theorem dX5_prepare_76 : decode cX5_prepare 76 = .ok (.aload_n 0, 1) := by decide +kernel
theorem dX5_prepare_77 : decode cX5_prepare 77 = .ok (.getfield 28, 3) := by decide +kernel
theorem dX5_prepare_80 : decode cX5_prepare 80 = .ok (.iconst 0, 1) := by decide +kernel
theorem dX5_prepare_81 : decode cX5_prepare 81 = .ok (.invokestatic 79, 3) := by decide +kernel
theorem dX5_prepare_84 : decode cX5_prepare 84 = .ok (.return_, 1) := by decide +kernel
theorem dX5_fillRests_0 : decode cX5_fillRests 0 = .ok (.iconst 0, 1) := by decide +kernel
theorem dX5_fillRests_1 : decode cX5_fillRests 1 = .ok (.istore_n 1, 1) := by decide +kernel
theorem dX5_fillRests_2 : decode cX5_fillRests 2 = .ok (.iload_n 1, 1) := by decide +kernel
theorem dX5_fillRests_3 : decode cX5_fillRests 3 = .ok (.bipush 14, 2) := by decide +kernel
theorem dX5_fillRests_5 : decode cX5_fillRests 5 = .ok (.if_icmp .gt 87, 3) := by decide +kernel
theorem dX5_fillRests_8 : decode cX5_fillRests 8 = .ok (.iload_n 1, 1) := by decide +kernel
theorem dX5_fillRests_9 : decode cX5_fillRests 9 = .ok (.aload_n 0, 1) := by decide +kernel
theorem dX5_fillRests_10 : decode cX5_fillRests 10 = .ok (.getfield 12, 3) := by decide +kernel
theorem dX5_fillRests_13 : decode cX5_fillRests 13 = .ok (.getfield 83, 3) := by decide +kernel
theorem dX5_fillRests_16 : decode cX5_fillRests 16 = .ok (.if_icmp .gt 76, 3) := by decide +kernel
theorem dX5_fillRests_19 : decode cX5_fillRests 19 = .ok (.iconst 0, 1) := by decide +kernel
theorem dX5_fillRests_20 : decode cX5_fillRests 20 = .ok (.istore_n 2, 1) := by decide +kernel
theorem dX5_fillRests_21 : decode cX5_fillRests 21 = .ok (.iload_n 2, 1) := by decide +kernel
theorem dX5_fillRests_22 : decode cX5_fillRests 22 = .ok (.bipush 14, 2) := by decide +kernel
theorem dX5_fillRests_24 : decode cX5_fillRests 24 = .ok (.if_icmp .gt 62, 3) := by decide +kernel
theorem dX5_fillRests_27 : decode cX5_fillRests 27 = .ok (.iload_n 2, 1) := by decide +kernel
theorem dX5_fillRests_28 : decode cX5_fillRests 28 = .ok (.aload_n 0, 1) := by decide +kernel
theorem dX5_fillRests_29 : decode cX5_fillRests 29 = .ok (.getfield 12, 3) := by decide +kernel
theorem dX5_fillRests_32 : decode cX5_fillRests 32 = .ok (.getfield 83, 3) := by decide +kernel
theorem dX5_fillRests_35 : decode cX5_fillRests 35 = .ok (.if_icmp .gt 51, 3) := by decide +kernel
theorem dX5_fillRests_38 : decode cX5_fillRests 38 = .ok (.iconst 1, 1) := by decide +kernel
theorem dX5_fillRests_39 : decode cX5_fillRests 39 = .ok (.istore_n 3, 1) := by decide +kernel
theorem dX5_fillRests_40 : decode cX5_fillRests 40 = .ok (.iload_n 3, 1) := by decide +kernel
theorem dX5_fillRests_41 : decode cX5_fillRests 41 = .ok (.iconst 4, 1) := by decide +kernel
theorem dX5_fillRests_42 : decode cX5_fillRests 42 = .ok (.if_icmp .gt 38, 3) := by decide +kernel
theorem dX5_fillRests_45 : decode cX5_fillRests 45 = .ok (.aload_n 0, 1) := by decide +kernel
theorem dX5_fillRests_46 : decode cX5_fillRests 46 = .ok (.getfield 18, 3) := by decide +kernel
theorem dX5_fillRests_49 : decode cX5_fillRests 49 = .ok (.iload_n 1, 1) := by decide +kernel
theorem dX5_fillRests_50 : decode cX5_fillRests 50 = .ok (.bipush 6, 2) := by decide +kernel
theorem dX5_fillRests_52 : decode cX5_fillRests 52 = .ok (.ishl, 1) := by decide +kernel
theorem dX5_fillRests_53 : decode cX5_fillRests 53 = .ok (.iload_n 2, 1) := by decide +kernel
theorem dX5_fillRests_54 : decode cX5_fillRests 54 = .ok (.iconst 2, 1) := by decide +kernel
theorem dX5_fillRests_55 : decode cX5_fillRests 55 = .ok (.ishl, 1) := by decide +kernel
theorem dX5_fillRests_56 : decode cX5_fillRests 56 = .ok (.ior, 1) := by decide +kernel
theorem dX5_fillRests_57 : decode cX5_fillRests 57 = .ok (.iload_n 3, 1) := by decide +kernel
theorem dX5_fillRests_58 : decode cX5_fillRests 58 = .ok (.iconst 1, 1) := by decide +kernel
theorem dX5_fillRests_59 : decode cX5_fillRests 59 = .ok (.isub, 1) := by decide +kernel
theorem dX5_fillRests_60 : decode cX5_fillRests 60 = .ok (.ior, 1) := by decide +kernel
theorem dX5_fillRests_61 : decode cX5_fillRests 61 = .ok (.aload_n 0, 1) := by decide +kernel
theorem dX5_fillRests_62 : decode cX5_fillRests 62 = .ok (.getfield 12, 3) := by decide +kernel
theorem dX5_fillRests_65 : decode cX5_fillRests 65 = .ok (.iload_n 1, 1) := by decide +kernel
theorem dX5_fillRests_66 : decode cX5_fillRests 66 = .ok (.iload_n 2, 1) := by decide +kernel
theorem dX5_fillRests_67 : decode cX5_fillRests 67 = .ok (.iload_n 3, 1) := by decide +kernel
theorem dX5_fillRests_68 : decode cX5_fillRests 68 = .ok (.invokevirtual 86, 3) := by decide +kernel
theorem dX5_fillRests_71 : decode cX5_fillRests 71 = .ok (.invokestatic 59, 3) := by decide +kernel
theorem dX5_fillRests_74 : decode cX5_fillRests 74 = .ok (.iinc 3 1, 3) := by decide +kernel
theorem dX5_fillRests_77 : decode cX5_fillRests 77 = .ok (.goto (-37), 3) := by decide +kernel
theorem dX5_fillRests_80 : decode cX5_fillRests 80 = .ok (.iinc 2 1, 3) := by decide +kernel
theorem dX5_fillRests_83 : decode cX5_fillRests 83 = .ok (.goto (-62), 3) := by decide +kernel
theorem dX5_fillRests_86 : decode cX5_fillRests 86 = .ok (.iinc 1 1, 3) := by decide +kernel
theorem dX5_fillRests_89 : decode cX5_fillRests 89 = .ok (.goto (-87), 3) := by decide +kernel
theorem dX5_fillRests_92 : decode cX5_fillRests 92 = .ok (.return_, 1) := by decide +kernel
theorem dX5_toldInto_0 : decode cX5_toldInto 0 = .ok (.aload_n 0, 1) := by decide +kernel
theorem dX5_toldInto_1 : decode cX5_toldInto 1 = .ok (.aload_n 1, 1) := by decide +kernel
theorem dX5_toldInto_2 : decode cX5_toldInto 2 = .ok (.invokestatic 90, 3) := by decide +kernel
theorem dX5_toldInto_5 : decode cX5_toldInto 5 = .ok (.iconst 0, 1) := by decide +kernel
theorem dX5_toldInto_6 : decode cX5_toldInto 6 = .ok (.invokevirtual 94, 3) := by decide +kernel
theorem dX5_toldInto_9 : decode cX5_toldInto 9 = .ok (.ireturn, 1) := by decide +kernel
theorem dX5_toldBySweeps_0 : decode cX5_toldBySweeps 0 = .ok (.aload_n 1, 1) := by decide +kernel
theorem dX5_toldBySweeps_1 : decode cX5_toldBySweeps 1 = .ok (.invokestatic 90, 3) := by decide +kernel
theorem dX5_toldBySweeps_4 : decode cX5_toldBySweeps 4 = .ok (.istore_n 2, 1) := by decide +kernel
theorem dX5_toldBySweeps_5 : decode cX5_toldBySweeps 5 = .ok (.aload_n 0, 1) := by decide +kernel
theorem dX5_toldBySweeps_6 : decode cX5_toldBySweeps 6 = .ok (.getfield 28, 3) := by decide +kernel
theorem dX5_toldBySweeps_9 : decode cX5_toldBySweeps 9 = .ok (.iload_n 2, 1) := by decide +kernel
theorem dX5_toldBySweeps_10 : decode cX5_toldBySweeps 10 = .ok (.invokestatic 98, 3) := by decide +kernel
theorem dX5_toldBySweeps_13 : decode cX5_toldBySweeps 13 = .ok (.ifCond .ne 7, 3) := by decide +kernel
theorem dX5_toldBySweeps_16 : decode cX5_toldBySweeps 16 = .ok (.iconst 1, 1) := by decide +kernel
theorem dX5_toldBySweeps_17 : decode cX5_toldBySweeps 17 = .ok (.goto 4, 3) := by decide +kernel
theorem dX5_toldBySweeps_20 : decode cX5_toldBySweeps 20 = .ok (.iconst 0, 1) := by decide +kernel
theorem dX5_toldBySweeps_21 : decode cX5_toldBySweeps 21 = .ok (.istore_n 3, 1) := by decide +kernel
theorem dX5_toldBySweeps_22 : decode cX5_toldBySweeps 22 = .ok (.iload_n 3, 1) := by decide +kernel
theorem dX5_toldBySweeps_23 : decode cX5_toldBySweeps 23 = .ok (.ifCond .eq 8, 3) := by decide +kernel
theorem dX5_toldBySweeps_26 : decode cX5_toldBySweeps 26 = .ok (.aload_n 0, 1) := by decide +kernel
theorem dX5_toldBySweeps_27 : decode cX5_toldBySweeps 27 = .ok (.iload_n 2, 1) := by decide +kernel
theorem dX5_toldBySweeps_28 : decode cX5_toldBySweeps 28 = .ok (.invokevirtual 102, 3) := by decide +kernel
theorem dX5_toldBySweeps_31 : decode cX5_toldBySweeps 31 = .ok (.iconst 0, 1) := by decide +kernel
theorem dX5_toldBySweeps_32 : decode cX5_toldBySweeps 32 = .ok (.istore 4, 2) := by decide +kernel
theorem dX5_toldBySweeps_34 : decode cX5_toldBySweeps 34 = .ok (.iload 4, 2) := by decide +kernel
theorem dX5_toldBySweeps_36 : decode cX5_toldBySweeps 36 = .ok (.sipush 1000, 3) := by decide +kernel
theorem dX5_toldBySweeps_39 : decode cX5_toldBySweeps 39 = .ok (.if_icmp .ge 18, 3) := by decide +kernel
theorem dX5_toldBySweeps_42 : decode cX5_toldBySweeps 42 = .ok (.iload_n 3, 1) := by decide +kernel
theorem dX5_toldBySweeps_43 : decode cX5_toldBySweeps 43 = .ok (.ifCond .eq 14, 3) := by decide +kernel
theorem dX5_toldBySweeps_46 : decode cX5_toldBySweeps 46 = .ok (.aload_n 0, 1) := by decide +kernel
theorem dX5_toldBySweeps_47 : decode cX5_toldBySweeps 47 = .ok (.invokevirtual 106, 3) := by decide +kernel
theorem dX5_toldBySweeps_50 : decode cX5_toldBySweeps 50 = .ok (.istore_n 3, 1) := by decide +kernel
theorem dX5_toldBySweeps_51 : decode cX5_toldBySweeps 51 = .ok (.iinc 4 1, 3) := by decide +kernel
theorem dX5_toldBySweeps_54 : decode cX5_toldBySweeps 54 = .ok (.goto (-20), 3) := by decide +kernel
theorem dX5_toldBySweeps_57 : decode cX5_toldBySweeps 57 = .ok (.aload_n 0, 1) := by decide +kernel
theorem dX5_toldBySweeps_58 : decode cX5_toldBySweeps 58 = .ok (.getfield 28, 3) := by decide +kernel
theorem dX5_toldBySweeps_61 : decode cX5_toldBySweeps 61 = .ok (.iload_n 2, 1) := by decide +kernel
theorem dX5_toldBySweeps_62 : decode cX5_toldBySweeps 62 = .ok (.invokestatic 98, 3) := by decide +kernel
theorem dX5_toldBySweeps_65 : decode cX5_toldBySweeps 65 = .ok (.ireturn, 1) := by decide +kernel
theorem dX5_ofTurn_0 : decode cX5_ofTurn 0 = .ok (.aload_n 1, 1) := by decide +kernel
theorem dX5_ofTurn_1 : decode cX5_ofTurn 1 = .ok (.invokestatic 90, 3) := by decide +kernel
theorem dX5_ofTurn_4 : decode cX5_ofTurn 4 = .ok (.istore_n 3, 1) := by decide +kernel
theorem dX5_ofTurn_5 : decode cX5_ofTurn 5 = .ok (.aload_n 0, 1) := by decide +kernel
theorem dX5_ofTurn_6 : decode cX5_ofTurn 6 = .ok (.iload_n 3, 1) := by decide +kernel
theorem dX5_ofTurn_7 : decode cX5_ofTurn 7 = .ok (.iload_n 2, 1) := by decide +kernel
theorem dX5_ofTurn_8 : decode cX5_ofTurn 8 = .ok (.invokevirtual 110, 3) := by decide +kernel
theorem dX5_ofTurn_11 : decode cX5_ofTurn 11 = .ok (.istore 4, 2) := by decide +kernel
theorem dX5_ofTurn_13 : decode cX5_ofTurn 13 = .ok (.iload 4, 2) := by decide +kernel
theorem dX5_ofTurn_15 : decode cX5_ofTurn 15 = .ok (.iconst (-1), 1) := by decide +kernel
theorem dX5_ofTurn_16 : decode cX5_ofTurn 16 = .ok (.if_icmp .eq 11, 3) := by decide +kernel
theorem dX5_ofTurn_19 : decode cX5_ofTurn 19 = .ok (.aload_n 0, 1) := by decide +kernel
theorem dX5_ofTurn_20 : decode cX5_ofTurn 20 = .ok (.iload 4, 2) := by decide +kernel
theorem dX5_ofTurn_22 : decode cX5_ofTurn 22 = .ok (.iconst 0, 1) := by decide +kernel
theorem dX5_ofTurn_23 : decode cX5_ofTurn 23 = .ok (.invokevirtual 94, 3) := by decide +kernel
theorem dX5_ofTurn_26 : decode cX5_ofTurn 26 = .ok (.pop, 1) := by decide +kernel
theorem dX5_ofTurn_27 : decode cX5_ofTurn 27 = .ok (.aload_n 0, 1) := by decide +kernel
theorem dX5_ofTurn_28 : decode cX5_ofTurn 28 = .ok (.aload_n 0, 1) := by decide +kernel
theorem dX5_ofTurn_29 : decode cX5_ofTurn 29 = .ok (.getfield 25, 3) := by decide +kernel
theorem dX5_ofTurn_32 : decode cX5_ofTurn 32 = .ok (.iload_n 3, 1) := by decide +kernel
theorem dX5_ofTurn_33 : decode cX5_ofTurn 33 = .ok (.iload_n 2, 1) := by decide +kernel
theorem dX5_ofTurn_34 : decode cX5_ofTurn 34 = .ok (.invokevirtual 113, 3) := by decide +kernel
theorem dX5_ofTurn_37 : decode cX5_ofTurn 37 = .ok (.ireturn, 1) := by decide +kernel
theorem dX5_bestOf_0 : decode cX5_bestOf 0 = .ok (.aload_n 1, 1) := by decide +kernel
theorem dX5_bestOf_1 : decode cX5_bestOf 1 = .ok (.invokestatic 90, 3) := by decide +kernel
theorem dX5_bestOf_4 : decode cX5_bestOf 4 = .ok (.istore_n 2, 1) := by decide +kernel
theorem dX5_bestOf_5 : decode cX5_bestOf 5 = .ok (.iload_n 2, 1) := by decide +kernel
theorem dX5_bestOf_6 : decode cX5_bestOf 6 = .ok (.invokestatic 53, 3) := by decide +kernel
theorem dX5_bestOf_9 : decode cX5_bestOf 9 = .ok (.ifCond .le 5, 3) := by decide +kernel
theorem dX5_bestOf_12 : decode cX5_bestOf 12 = .ok (.iconst 0, 1) := by decide +kernel
theorem dX5_bestOf_13 : decode cX5_bestOf 13 = .ok (.ireturn, 1) := by decide +kernel
theorem dX5_bestOf_14 : decode cX5_bestOf 14 = .ok (.aload_n 0, 1) := by decide +kernel
theorem dX5_bestOf_15 : decode cX5_bestOf 15 = .ok (.iload_n 2, 1) := by decide +kernel
theorem dX5_bestOf_16 : decode cX5_bestOf 16 = .ok (.iconst 0, 1) := by decide +kernel
theorem dX5_bestOf_17 : decode cX5_bestOf 17 = .ok (.invokevirtual 94, 3) := by decide +kernel
theorem dX5_bestOf_20 : decode cX5_bestOf 20 = .ok (.istore_n 3, 1) := by decide +kernel
theorem dX5_bestOf_21 : decode cX5_bestOf 21 = .ok (.iconst 1, 1) := by decide +kernel
theorem dX5_bestOf_22 : decode cX5_bestOf 22 = .ok (.istore 4, 2) := by decide +kernel
theorem dX5_bestOf_24 : decode cX5_bestOf 24 = .ok (.iload 4, 2) := by decide +kernel
theorem dX5_bestOf_26 : decode cX5_bestOf 26 = .ok (.iconst 5, 1) := by decide +kernel
theorem dX5_bestOf_27 : decode cX5_bestOf 27 = .ok (.if_icmp .ge 37, 3) := by decide +kernel
theorem dX5_bestOf_30 : decode cX5_bestOf 30 = .ok (.aload_n 0, 1) := by decide +kernel
theorem dX5_bestOf_31 : decode cX5_bestOf 31 = .ok (.iload_n 2, 1) := by decide +kernel
theorem dX5_bestOf_32 : decode cX5_bestOf 32 = .ok (.iload 4, 2) := by decide +kernel
theorem dX5_bestOf_34 : decode cX5_bestOf 34 = .ok (.invokevirtual 117, 3) := by decide +kernel
theorem dX5_bestOf_37 : decode cX5_bestOf 37 = .ok (.ifCond .eq 21, 3) := by decide +kernel
theorem dX5_bestOf_40 : decode cX5_bestOf 40 = .ok (.aload_n 0, 1) := by decide +kernel
theorem dX5_bestOf_41 : decode cX5_bestOf 41 = .ok (.aload_n 0, 1) := by decide +kernel
theorem dX5_bestOf_42 : decode cX5_bestOf 42 = .ok (.getfield 25, 3) := by decide +kernel
theorem dX5_bestOf_45 : decode cX5_bestOf 45 = .ok (.iload_n 2, 1) := by decide +kernel
theorem dX5_bestOf_46 : decode cX5_bestOf 46 = .ok (.iload 4, 2) := by decide +kernel
theorem dX5_bestOf_48 : decode cX5_bestOf 48 = .ok (.invokevirtual 113, 3) := by decide +kernel
theorem dX5_bestOf_51 : decode cX5_bestOf 51 = .ok (.iload_n 3, 1) := by decide +kernel
theorem dX5_bestOf_52 : decode cX5_bestOf 52 = .ok (.if_icmp .ne 6, 3) := by decide +kernel
theorem dX5_bestOf_55 : decode cX5_bestOf 55 = .ok (.iload 4, 2) := by decide +kernel
theorem dX5_bestOf_57 : decode cX5_bestOf 57 = .ok (.ireturn, 1) := by decide +kernel
theorem dX5_bestOf_58 : decode cX5_bestOf 58 = .ok (.iinc 4 1, 3) := by decide +kernel
theorem dX5_bestOf_61 : decode cX5_bestOf 61 = .ok (.goto (-37), 3) := by decide +kernel
theorem dX5_bestOf_64 : decode cX5_bestOf 64 = .ok (.iconst 5, 1) := by decide +kernel
theorem dX5_bestOf_65 : decode cX5_bestOf 65 = .ok (.ireturn, 1) := by decide +kernel
theorem dX5_tellInto_0 : decode cX5_tellInto 0 = .ok (.aload_n 0, 1) := by decide +kernel
theorem dX5_tellInto_1 : decode cX5_tellInto 1 = .ok (.getfield 25, 3) := by decide +kernel
theorem dX5_tellInto_4 : decode cX5_tellInto 4 = .ok (.iload_n 1, 1) := by decide +kernel
theorem dX5_tellInto_5 : decode cX5_tellInto 5 = .ok (.invokestatic 98, 3) := by decide +kernel
theorem dX5_tellInto_8 : decode cX5_tellInto 8 = .ok (.ifCond .ne 9, 3) := by decide +kernel
theorem dX5_tellInto_11 : decode cX5_tellInto 11 = .ok (.iload_n 2, 1) := by decide +kernel
theorem dX5_tellInto_12 : decode cX5_tellInto 12 = .ok (.bipush 64, 2) := by decide +kernel
theorem dX5_tellInto_14 : decode cX5_tellInto 14 = .ok (.if_icmp .le 12, 3) := by decide +kernel
theorem dX5_tellInto_17 : decode cX5_tellInto 17 = .ok (.aload_n 0, 1) := by decide +kernel
theorem dX5_tellInto_18 : decode cX5_tellInto 18 = .ok (.getfield 25, 3) := by decide +kernel
theorem dX5_tellInto_21 : decode cX5_tellInto 21 = .ok (.iload_n 1, 1) := by decide +kernel
theorem dX5_tellInto_22 : decode cX5_tellInto 22 = .ok (.invokestatic 98, 3) := by decide +kernel
theorem dX5_tellInto_25 : decode cX5_tellInto 25 = .ok (.ireturn, 1) := by decide +kernel
theorem dX5_tellInto_26 : decode cX5_tellInto 26 = .ok (.iload_n 1, 1) := by decide +kernel
theorem dX5_tellInto_27 : decode cX5_tellInto 27 = .ok (.istore_n 3, 1) := by decide +kernel
theorem dX5_tellInto_28 : decode cX5_tellInto 28 = .ok (.iconst 0, 1) := by decide +kernel
theorem dX5_tellInto_29 : decode cX5_tellInto 29 = .ok (.istore 4, 2) := by decide +kernel
theorem dX5_tellInto_31 : decode cX5_tellInto 31 = .ok (.iload 4, 2) := by decide +kernel
theorem dX5_tellInto_33 : decode cX5_tellInto 33 = .ok (.bipush 6, 2) := by decide +kernel
theorem dX5_tellInto_35 : decode cX5_tellInto 35 = .ok (.if_icmp .ge 23, 3) := by decide +kernel
theorem dX5_tellInto_38 : decode cX5_tellInto 38 = .ok (.iload_n 3, 1) := by decide +kernel
theorem dX5_tellInto_39 : decode cX5_tellInto 39 = .ok (.invokestatic 53, 3) := by decide +kernel
theorem dX5_tellInto_42 : decode cX5_tellInto 42 = .ok (.ifCond .le 16, 3) := by decide +kernel
theorem dX5_tellInto_45 : decode cX5_tellInto 45 = .ok (.aload_n 0, 1) := by decide +kernel
theorem dX5_tellInto_46 : decode cX5_tellInto 46 = .ok (.iload_n 3, 1) := by decide +kernel
theorem dX5_tellInto_47 : decode cX5_tellInto 47 = .ok (.iconst 0, 1) := by decide +kernel
theorem dX5_tellInto_48 : decode cX5_tellInto 48 = .ok (.invokevirtual 110, 3) := by decide +kernel
theorem dX5_tellInto_51 : decode cX5_tellInto 51 = .ok (.istore_n 3, 1) := by decide +kernel
theorem dX5_tellInto_52 : decode cX5_tellInto 52 = .ok (.iinc 4 1, 3) := by decide +kernel
theorem dX5_tellInto_55 : decode cX5_tellInto 55 = .ok (.goto (-24), 3) := by decide +kernel
theorem dX5_tellInto_58 : decode cX5_tellInto 58 = .ok (.aload_n 0, 1) := by decide +kernel
theorem dX5_tellInto_59 : decode cX5_tellInto 59 = .ok (.getfield 25, 3) := by decide +kernel
theorem dX5_tellInto_62 : decode cX5_tellInto 62 = .ok (.iload_n 3, 1) := by decide +kernel
theorem dX5_tellInto_63 : decode cX5_tellInto 63 = .ok (.invokestatic 98, 3) := by decide +kernel
theorem dX5_tellInto_66 : decode cX5_tellInto 66 = .ok (.ifCond .ne 19, 3) := by decide +kernel
theorem dX5_tellInto_69 : decode cX5_tellInto 69 = .ok (.aload_n 0, 1) := by decide +kernel
theorem dX5_tellInto_70 : decode cX5_tellInto 70 = .ok (.getfield 25, 3) := by decide +kernel
theorem dX5_tellInto_73 : decode cX5_tellInto 73 = .ok (.iload_n 3, 1) := by decide +kernel
theorem dX5_tellInto_74 : decode cX5_tellInto 74 = .ok (.aload_n 0, 1) := by decide +kernel
theorem dX5_tellInto_75 : decode cX5_tellInto 75 = .ok (.iload_n 3, 1) := by decide +kernel
theorem dX5_tellInto_76 : decode cX5_tellInto 76 = .ok (.iload_n 2, 1) := by decide +kernel
theorem dX5_tellInto_77 : decode cX5_tellInto 77 = .ok (.iconst 1, 1) := by decide +kernel
theorem dX5_tellInto_78 : decode cX5_tellInto 78 = .ok (.iadd, 1) := by decide +kernel
theorem dX5_tellInto_79 : decode cX5_tellInto 79 = .ok (.invokevirtual 121, 3) := by decide +kernel
theorem dX5_tellInto_82 : decode cX5_tellInto 82 = .ok (.invokestatic 59, 3) := by decide +kernel
theorem dX5_tellInto_85 : decode cX5_tellInto 85 = .ok (.aload_n 0, 1) := by decide +kernel
theorem dX5_tellInto_86 : decode cX5_tellInto 86 = .ok (.getfield 25, 3) := by decide +kernel
theorem dX5_tellInto_89 : decode cX5_tellInto 89 = .ok (.iload_n 3, 1) := by decide +kernel
theorem dX5_tellInto_90 : decode cX5_tellInto 90 = .ok (.invokestatic 98, 3) := by decide +kernel
theorem dX5_tellInto_93 : decode cX5_tellInto 93 = .ok (.istore 5, 2) := by decide +kernel
theorem dX5_tellInto_95 : decode cX5_tellInto 95 = .ok (.iconst 0, 1) := by decide +kernel
theorem dX5_tellInto_96 : decode cX5_tellInto 96 = .ok (.istore 6, 2) := by decide +kernel
theorem dX5_tellInto_98 : decode cX5_tellInto 98 = .ok (.iload 6, 2) := by decide +kernel
theorem dX5_tellInto_100 : decode cX5_tellInto 100 = .ok (.iload 4, 2) := by decide +kernel
theorem dX5_tellInto_102 : decode cX5_tellInto 102 = .ok (.if_icmp .ge 16, 3) := by decide +kernel
theorem dX5_tellInto_105 : decode cX5_tellInto 105 = .ok (.iload 5, 2) := by decide +kernel
theorem dX5_tellInto_107 : decode cX5_tellInto 107 = .ok (.invokestatic 124, 3) := by decide +kernel
theorem dX5_tellInto_110 : decode cX5_tellInto 110 = .ok (.istore 5, 2) := by decide +kernel
theorem dX5_tellInto_112 : decode cX5_tellInto 112 = .ok (.iinc 6 1, 3) := by decide +kernel
theorem dX5_tellInto_115 : decode cX5_tellInto 115 = .ok (.goto (-17), 3) := by decide +kernel
theorem dX5_tellInto_118 : decode cX5_tellInto 118 = .ok (.aload_n 0, 1) := by decide +kernel
theorem dX5_tellInto_119 : decode cX5_tellInto 119 = .ok (.getfield 25, 3) := by decide +kernel
theorem dX5_tellInto_122 : decode cX5_tellInto 122 = .ok (.iload_n 1, 1) := by decide +kernel
theorem dX5_tellInto_123 : decode cX5_tellInto 123 = .ok (.iload 5, 2) := by decide +kernel
theorem dX5_tellInto_125 : decode cX5_tellInto 125 = .ok (.invokestatic 59, 3) := by decide +kernel
theorem dX5_tellInto_128 : decode cX5_tellInto 128 = .ok (.iload 5, 2) := by decide +kernel
theorem dX5_tellInto_130 : decode cX5_tellInto 130 = .ok (.ireturn, 1) := by decide +kernel
theorem dX5_greatestInto_0 : decode cX5_greatestInto 0 = .ok (.sipush (-500), 3) := by decide +kernel
theorem dX5_greatestInto_3 : decode cX5_greatestInto 3 = .ok (.istore_n 3, 1) := by decide +kernel
theorem dX5_greatestInto_4 : decode cX5_greatestInto 4 = .ok (.iconst 1, 1) := by decide +kernel
theorem dX5_greatestInto_5 : decode cX5_greatestInto 5 = .ok (.istore 4, 2) := by decide +kernel
theorem dX5_greatestInto_7 : decode cX5_greatestInto 7 = .ok (.iload 4, 2) := by decide +kernel
theorem dX5_greatestInto_9 : decode cX5_greatestInto 9 = .ok (.iconst 5, 1) := by decide +kernel
theorem dX5_greatestInto_10 : decode cX5_greatestInto 10 = .ok (.if_icmp .gt 59, 3) := by decide +kernel
theorem dX5_greatestInto_13 : decode cX5_greatestInto 13 = .ok (.aload_n 0, 1) := by decide +kernel
theorem dX5_greatestInto_14 : decode cX5_greatestInto 14 = .ok (.iload_n 1, 1) := by decide +kernel
theorem dX5_greatestInto_15 : decode cX5_greatestInto 15 = .ok (.iload 4, 2) := by decide +kernel
theorem dX5_greatestInto_17 : decode cX5_greatestInto 17 = .ok (.invokevirtual 117, 3) := by decide +kernel
theorem dX5_greatestInto_20 : decode cX5_greatestInto 20 = .ok (.ifCond .eq 43, 3) := by decide +kernel
theorem dX5_greatestInto_23 : decode cX5_greatestInto 23 = .ok (.aload_n 0, 1) := by decide +kernel
theorem dX5_greatestInto_24 : decode cX5_greatestInto 24 = .ok (.iload_n 1, 1) := by decide +kernel
theorem dX5_greatestInto_25 : decode cX5_greatestInto 25 = .ok (.iload 4, 2) := by decide +kernel
theorem dX5_greatestInto_27 : decode cX5_greatestInto 27 = .ok (.invokevirtual 110, 3) := by decide +kernel
theorem dX5_greatestInto_30 : decode cX5_greatestInto 30 = .ok (.istore 5, 2) := by decide +kernel
theorem dX5_greatestInto_32 : decode cX5_greatestInto 32 = .ok (.iload 5, 2) := by decide +kernel
theorem dX5_greatestInto_34 : decode cX5_greatestInto 34 = .ok (.iconst (-1), 1) := by decide +kernel
theorem dX5_greatestInto_35 : decode cX5_greatestInto 35 = .ok (.if_icmp .ne 9, 3) := by decide +kernel
theorem dX5_greatestInto_38 : decode cX5_greatestInto 38 = .ok (.sipush (-500), 3) := by decide +kernel
theorem dX5_greatestInto_41 : decode cX5_greatestInto 41 = .ok (.goto 10, 3) := by decide +kernel
theorem dX5_greatestInto_44 : decode cX5_greatestInto 44 = .ok (.aload_n 0, 1) := by decide +kernel
theorem dX5_greatestInto_45 : decode cX5_greatestInto 45 = .ok (.iload 5, 2) := by decide +kernel
theorem dX5_greatestInto_47 : decode cX5_greatestInto 47 = .ok (.iload_n 2, 1) := by decide +kernel
theorem dX5_greatestInto_48 : decode cX5_greatestInto 48 = .ok (.invokevirtual 94, 3) := by decide +kernel
theorem dX5_greatestInto_51 : decode cX5_greatestInto 51 = .ok (.istore 6, 2) := by decide +kernel
theorem dX5_greatestInto_53 : decode cX5_greatestInto 53 = .ok (.iload_n 3, 1) := by decide +kernel
theorem dX5_greatestInto_54 : decode cX5_greatestInto 54 = .ok (.iload 6, 2) := by decide +kernel
theorem dX5_greatestInto_56 : decode cX5_greatestInto 56 = .ok (.invokestatic 124, 3) := by decide +kernel
theorem dX5_greatestInto_59 : decode cX5_greatestInto 59 = .ok (.invokestatic 127, 3) := by decide +kernel
theorem dX5_greatestInto_62 : decode cX5_greatestInto 62 = .ok (.istore_n 3, 1) := by decide +kernel
theorem dX5_greatestInto_63 : decode cX5_greatestInto 63 = .ok (.iinc 4 1, 3) := by decide +kernel
theorem dX5_greatestInto_66 : decode cX5_greatestInto 66 = .ok (.goto (-59), 3) := by decide +kernel
theorem dX5_greatestInto_69 : decode cX5_greatestInto 69 = .ok (.iload_n 3, 1) := by decide +kernel
theorem dX5_greatestInto_70 : decode cX5_greatestInto 70 = .ok (.ireturn, 1) := by decide +kernel
theorem dX5_gather_0 : decode cX5_gather 0 = .ok (.aload_n 0, 1) := by decide +kernel
theorem dX5_gather_1 : decode cX5_gather 1 = .ok (.iconst 0, 1) := by decide +kernel
theorem dX5_gather_2 : decode cX5_gather 2 = .ok (.putfield 34, 3) := by decide +kernel
theorem dX5_gather_5 : decode cX5_gather 5 = .ok (.aload_n 0, 1) := by decide +kernel
theorem dX5_gather_6 : decode cX5_gather 6 = .ok (.getfield 28, 3) := by decide +kernel
theorem dX5_gather_9 : decode cX5_gather 9 = .ok (.iload_n 1, 1) := by decide +kernel
theorem dX5_gather_10 : decode cX5_gather 10 = .ok (.sipush 1000, 3) := by decide +kernel
theorem dX5_gather_13 : decode cX5_gather 13 = .ok (.invokestatic 59, 3) := by decide +kernel
theorem dX5_gather_16 : decode cX5_gather 16 = .ok (.iconst 0, 1) := by decide +kernel
theorem dX5_gather_17 : decode cX5_gather 17 = .ok (.istore_n 2, 1) := by decide +kernel
theorem dX5_gather_18 : decode cX5_gather 18 = .ok (.iload_n 2, 1) := by decide +kernel
theorem dX5_gather_19 : decode cX5_gather 19 = .ok (.iconst 2, 1) := by decide +kernel
theorem dX5_gather_20 : decode cX5_gather 20 = .ok (.aload_n 0, 1) := by decide +kernel
theorem dX5_gather_21 : decode cX5_gather 21 = .ok (.getfield 12, 3) := by decide +kernel
theorem dX5_gather_24 : decode cX5_gather 24 = .ok (.getfield 83, 3) := by decide +kernel
theorem dX5_gather_27 : decode cX5_gather 27 = .ok (.imul, 1) := by decide +kernel
theorem dX5_gather_28 : decode cX5_gather 28 = .ok (.if_icmp .gt 134, 3) := by decide +kernel
theorem dX5_gather_31 : decode cX5_gather 31 = .ok (.bipush 63, 2) := by decide +kernel
theorem dX5_gather_33 : decode cX5_gather 33 = .ok (.istore_n 3, 1) := by decide +kernel
theorem dX5_gather_34 : decode cX5_gather 34 = .ok (.iload_n 3, 1) := by decide +kernel
theorem dX5_gather_35 : decode cX5_gather 35 = .ok (.ifCond .lt 121, 3) := by decide +kernel
theorem dX5_gather_38 : decode cX5_gather 38 = .ok (.iconst 0, 1) := by decide +kernel
theorem dX5_gather_39 : decode cX5_gather 39 = .ok (.istore 4, 2) := by decide +kernel
theorem dX5_gather_41 : decode cX5_gather 41 = .ok (.iload 4, 2) := by decide +kernel
theorem dX5_gather_43 : decode cX5_gather 43 = .ok (.aload_n 0, 1) := by decide +kernel
theorem dX5_gather_44 : decode cX5_gather 44 = .ok (.getfield 12, 3) := by decide +kernel
theorem dX5_gather_47 : decode cX5_gather 47 = .ok (.getfield 83, 3) := by decide +kernel
theorem dX5_gather_50 : decode cX5_gather 50 = .ok (.if_icmp .gt 100, 3) := by decide +kernel
theorem dX5_gather_53 : decode cX5_gather 53 = .ok (.iload 4, 2) := by decide +kernel
theorem dX5_gather_55 : decode cX5_gather 55 = .ok (.iload_n 2, 1) := by decide +kernel
theorem dX5_gather_56 : decode cX5_gather 56 = .ok (.if_icmp .gt 94, 3) := by decide +kernel
theorem dX5_gather_59 : decode cX5_gather 59 = .ok (.iload 4, 2) := by decide +kernel
theorem dX5_gather_61 : decode cX5_gather 61 = .ok (.bipush 10, 2) := by decide +kernel
theorem dX5_gather_63 : decode cX5_gather 63 = .ok (.ishl, 1) := by decide +kernel
theorem dX5_gather_64 : decode cX5_gather 64 = .ok (.iload_n 2, 1) := by decide +kernel
theorem dX5_gather_65 : decode cX5_gather 65 = .ok (.iload 4, 2) := by decide +kernel
theorem dX5_gather_67 : decode cX5_gather 67 = .ok (.isub, 1) := by decide +kernel
theorem dX5_gather_68 : decode cX5_gather 68 = .ok (.bipush 15, 2) := by decide +kernel
theorem dX5_gather_70 : decode cX5_gather 70 = .ok (.iand, 1) := by decide +kernel
theorem dX5_gather_71 : decode cX5_gather 71 = .ok (.bipush 6, 2) := by decide +kernel
theorem dX5_gather_73 : decode cX5_gather 73 = .ok (.ishl, 1) := by decide +kernel
theorem dX5_gather_74 : decode cX5_gather 74 = .ok (.ior, 1) := by decide +kernel
theorem dX5_gather_75 : decode cX5_gather 75 = .ok (.aload_n 0, 1) := by decide +kernel
theorem dX5_gather_76 : decode cX5_gather 76 = .ok (.getfield 22, 3) := by decide +kernel
theorem dX5_gather_79 : decode cX5_gather 79 = .ok (.iload_n 3, 1) := by decide +kernel
theorem dX5_gather_80 : decode cX5_gather 80 = .ok (.invokestatic 98, 3) := by decide +kernel
theorem dX5_gather_83 : decode cX5_gather 83 = .ok (.ior, 1) := by decide +kernel
theorem dX5_gather_84 : decode cX5_gather 84 = .ok (.istore 5, 2) := by decide +kernel
theorem dX5_gather_86 : decode cX5_gather 86 = .ok (.iload_n 2, 1) := by decide +kernel
theorem dX5_gather_87 : decode cX5_gather 87 = .ok (.iload 4, 2) := by decide +kernel
theorem dX5_gather_89 : decode cX5_gather 89 = .ok (.isub, 1) := by decide +kernel
theorem dX5_gather_90 : decode cX5_gather 90 = .ok (.aload_n 0, 1) := by decide +kernel
theorem dX5_gather_91 : decode cX5_gather 91 = .ok (.getfield 12, 3) := by decide +kernel
theorem dX5_gather_94 : decode cX5_gather 94 = .ok (.getfield 83, 3) := by decide +kernel
theorem dX5_gather_97 : decode cX5_gather 97 = .ok (.if_icmp .gt 47, 3) := by decide +kernel
theorem dX5_gather_100 : decode cX5_gather 100 = .ok (.aload_n 0, 1) := by decide +kernel
theorem dX5_gather_101 : decode cX5_gather 101 = .ok (.getfield 28, 3) := by decide +kernel
theorem dX5_gather_104 : decode cX5_gather 104 = .ok (.iload 5, 2) := by decide +kernel
theorem dX5_gather_106 : decode cX5_gather 106 = .ok (.invokestatic 98, 3) := by decide +kernel
theorem dX5_gather_109 : decode cX5_gather 109 = .ok (.sipush 1000, 3) := by decide +kernel
theorem dX5_gather_112 : decode cX5_gather 112 = .ok (.if_icmp .ne 32, 3) := by decide +kernel
theorem dX5_gather_115 : decode cX5_gather 115 = .ok (.aload_n 0, 1) := by decide +kernel
theorem dX5_gather_116 : decode cX5_gather 116 = .ok (.getfield 31, 3) := by decide +kernel
theorem dX5_gather_119 : decode cX5_gather 119 = .ok (.aload_n 0, 1) := by decide +kernel
theorem dX5_gather_120 : decode cX5_gather 120 = .ok (.getfield 34, 3) := by decide +kernel
theorem dX5_gather_123 : decode cX5_gather 123 = .ok (.iload 5, 2) := by decide +kernel
theorem dX5_gather_125 : decode cX5_gather 125 = .ok (.invokestatic 59, 3) := by decide +kernel
theorem dX5_gather_128 : decode cX5_gather 128 = .ok (.aload_n 0, 1) := by decide +kernel
theorem dX5_gather_129 : decode cX5_gather 129 = .ok (.dup, 1) := by decide +kernel
theorem dX5_gather_130 : decode cX5_gather 130 = .ok (.getfield 34, 3) := by decide +kernel
theorem dX5_gather_133 : decode cX5_gather 133 = .ok (.iconst 1, 1) := by decide +kernel
theorem dX5_gather_134 : decode cX5_gather 134 = .ok (.iadd, 1) := by decide +kernel
theorem dX5_gather_135 : decode cX5_gather 135 = .ok (.putfield 34, 3) := by decide +kernel
theorem dX5_gather_138 : decode cX5_gather 138 = .ok (.aload_n 0, 1) := by decide +kernel
theorem dX5_gather_139 : decode cX5_gather 139 = .ok (.iload 5, 2) := by decide +kernel
theorem dX5_gather_141 : decode cX5_gather 141 = .ok (.invokevirtual 132, 3) := by decide +kernel
theorem dX5_gather_144 : decode cX5_gather 144 = .ok (.iinc 4 1, 3) := by decide +kernel
theorem dX5_gather_147 : decode cX5_gather 147 = .ok (.goto (-106), 3) := by decide +kernel
theorem dX5_gather_150 : decode cX5_gather 150 = .ok (.iinc 3 (-1), 3) := by decide +kernel
theorem dX5_gather_153 : decode cX5_gather 153 = .ok (.goto (-119), 3) := by decide +kernel
theorem dX5_gather_156 : decode cX5_gather 156 = .ok (.iinc 2 1, 3) := by decide +kernel
theorem dX5_gather_159 : decode cX5_gather 159 = .ok (.goto (-141), 3) := by decide +kernel
theorem dX5_gather_162 : decode cX5_gather 162 = .ok (.return_, 1) := by decide +kernel
theorem dX5_guessAllAfter_0 : decode cX5_guessAllAfter 0 = .ok (.iconst 0, 1) := by decide +kernel
theorem dX5_guessAllAfter_1 : decode cX5_guessAllAfter 1 = .ok (.istore_n 2, 1) := by decide +kernel
theorem dX5_guessAllAfter_2 : decode cX5_guessAllAfter 2 = .ok (.iload_n 2, 1) := by decide +kernel
theorem dX5_guessAllAfter_3 : decode cX5_guessAllAfter 3 = .ok (.iconst 5, 1) := by decide +kernel
theorem dX5_guessAllAfter_4 : decode cX5_guessAllAfter 4 = .ok (.if_icmp .gt 56, 3) := by decide +kernel
theorem dX5_guessAllAfter_7 : decode cX5_guessAllAfter 7 = .ok (.aload_n 0, 1) := by decide +kernel
theorem dX5_guessAllAfter_8 : decode cX5_guessAllAfter 8 = .ok (.iload_n 1, 1) := by decide +kernel
theorem dX5_guessAllAfter_9 : decode cX5_guessAllAfter 9 = .ok (.iload_n 2, 1) := by decide +kernel
theorem dX5_guessAllAfter_10 : decode cX5_guessAllAfter 10 = .ok (.invokevirtual 117, 3) := by decide +kernel
theorem dX5_guessAllAfter_13 : decode cX5_guessAllAfter 13 = .ok (.ifCond .eq 12, 3) := by decide +kernel
theorem dX5_guessAllAfter_16 : decode cX5_guessAllAfter 16 = .ok (.aload_n 0, 1) := by decide +kernel
theorem dX5_guessAllAfter_17 : decode cX5_guessAllAfter 17 = .ok (.iload_n 1, 1) := by decide +kernel
theorem dX5_guessAllAfter_18 : decode cX5_guessAllAfter 18 = .ok (.iload_n 2, 1) := by decide +kernel
theorem dX5_guessAllAfter_19 : decode cX5_guessAllAfter 19 = .ok (.invokevirtual 110, 3) := by decide +kernel
theorem dX5_guessAllAfter_22 : decode cX5_guessAllAfter 22 = .ok (.goto 4, 3) := by decide +kernel
theorem dX5_guessAllAfter_25 : decode cX5_guessAllAfter 25 = .ok (.iconst (-1), 1) := by decide +kernel
theorem dX5_guessAllAfter_26 : decode cX5_guessAllAfter 26 = .ok (.istore_n 3, 1) := by decide +kernel
theorem dX5_guessAllAfter_27 : decode cX5_guessAllAfter 27 = .ok (.iload_n 3, 1) := by decide +kernel
theorem dX5_guessAllAfter_28 : decode cX5_guessAllAfter 28 = .ok (.iconst (-1), 1) := by decide +kernel
theorem dX5_guessAllAfter_29 : decode cX5_guessAllAfter 29 = .ok (.if_icmp .eq 25, 3) := by decide +kernel
theorem dX5_guessAllAfter_32 : decode cX5_guessAllAfter 32 = .ok (.aload_n 0, 1) := by decide +kernel
theorem dX5_guessAllAfter_33 : decode cX5_guessAllAfter 33 = .ok (.getfield 28, 3) := by decide +kernel
theorem dX5_guessAllAfter_36 : decode cX5_guessAllAfter 36 = .ok (.iload_n 3, 1) := by decide +kernel
theorem dX5_guessAllAfter_37 : decode cX5_guessAllAfter 37 = .ok (.invokestatic 98, 3) := by decide +kernel
theorem dX5_guessAllAfter_40 : decode cX5_guessAllAfter 40 = .ok (.ifCond .ne 14, 3) := by decide +kernel
theorem dX5_guessAllAfter_43 : decode cX5_guessAllAfter 43 = .ok (.aload_n 0, 1) := by decide +kernel
theorem dX5_guessAllAfter_44 : decode cX5_guessAllAfter 44 = .ok (.getfield 28, 3) := by decide +kernel
theorem dX5_guessAllAfter_47 : decode cX5_guessAllAfter 47 = .ok (.iload_n 3, 1) := by decide +kernel
theorem dX5_guessAllAfter_48 : decode cX5_guessAllAfter 48 = .ok (.sipush 1000, 3) := by decide +kernel
theorem dX5_guessAllAfter_51 : decode cX5_guessAllAfter 51 = .ok (.invokestatic 59, 3) := by decide +kernel
theorem dX5_guessAllAfter_54 : decode cX5_guessAllAfter 54 = .ok (.iinc 2 1, 3) := by decide +kernel
theorem dX5_guessAllAfter_57 : decode cX5_guessAllAfter 57 = .ok (.goto (-55), 3) := by decide +kernel
theorem dX5_guessAllAfter_60 : decode cX5_guessAllAfter 60 = .ok (.return_, 1) := by decide +kernel
theorem dX5_sweep_0 : decode cX5_sweep 0 = .ok (.iconst 0, 1) := by decide +kernel
theorem dX5_sweep_1 : decode cX5_sweep 1 = .ok (.istore_n 1, 1) := by decide +kernel
theorem dX5_sweep_2 : decode cX5_sweep 2 = .ok (.aload_n 0, 1) := by decide +kernel
theorem dX5_sweep_3 : decode cX5_sweep 3 = .ok (.getfield 34, 3) := by decide +kernel
theorem dX5_sweep_6 : decode cX5_sweep 6 = .ok (.iconst 1, 1) := by decide +kernel
theorem dX5_sweep_7 : decode cX5_sweep 7 = .ok (.isub, 1) := by decide +kernel
theorem dX5_sweep_8 : decode cX5_sweep 8 = .ok (.istore_n 2, 1) := by decide +kernel
theorem dX5_sweep_9 : decode cX5_sweep 9 = .ok (.iload_n 2, 1) := by decide +kernel
theorem dX5_sweep_10 : decode cX5_sweep 10 = .ok (.ifCond .lt 58, 3) := by decide +kernel
theorem dX5_sweep_13 : decode cX5_sweep 13 = .ok (.aload_n 0, 1) := by decide +kernel
theorem dX5_sweep_14 : decode cX5_sweep 14 = .ok (.getfield 31, 3) := by decide +kernel
theorem dX5_sweep_17 : decode cX5_sweep 17 = .ok (.iload_n 2, 1) := by decide +kernel
theorem dX5_sweep_18 : decode cX5_sweep 18 = .ok (.invokestatic 98, 3) := by decide +kernel
theorem dX5_sweep_21 : decode cX5_sweep 21 = .ok (.istore_n 3, 1) := by decide +kernel
theorem dX5_sweep_22 : decode cX5_sweep 22 = .ok (.aload_n 0, 1) := by decide +kernel
theorem dX5_sweep_23 : decode cX5_sweep 23 = .ok (.iload_n 3, 1) := by decide +kernel
theorem dX5_sweep_24 : decode cX5_sweep 24 = .ok (.invokevirtual 135, 3) := by decide +kernel
theorem dX5_sweep_27 : decode cX5_sweep 27 = .ok (.istore 4, 2) := by decide +kernel
theorem dX5_sweep_29 : decode cX5_sweep 29 = .ok (.iload_n 1, 1) := by decide +kernel
theorem dX5_sweep_30 : decode cX5_sweep 30 = .ok (.ifCond .ne 16, 3) := by decide +kernel
theorem dX5_sweep_33 : decode cX5_sweep 33 = .ok (.iload 4, 2) := by decide +kernel
theorem dX5_sweep_35 : decode cX5_sweep 35 = .ok (.aload_n 0, 1) := by decide +kernel
theorem dX5_sweep_36 : decode cX5_sweep 36 = .ok (.getfield 28, 3) := by decide +kernel
theorem dX5_sweep_39 : decode cX5_sweep 39 = .ok (.iload_n 3, 1) := by decide +kernel
theorem dX5_sweep_40 : decode cX5_sweep 40 = .ok (.invokestatic 98, 3) := by decide +kernel
theorem dX5_sweep_43 : decode cX5_sweep 43 = .ok (.if_icmp .eq 7, 3) := by decide +kernel
theorem dX5_sweep_46 : decode cX5_sweep 46 = .ok (.iconst 1, 1) := by decide +kernel
theorem dX5_sweep_47 : decode cX5_sweep 47 = .ok (.goto 4, 3) := by decide +kernel
theorem dX5_sweep_50 : decode cX5_sweep 50 = .ok (.iconst 0, 1) := by decide +kernel
theorem dX5_sweep_51 : decode cX5_sweep 51 = .ok (.istore_n 1, 1) := by decide +kernel
theorem dX5_sweep_52 : decode cX5_sweep 52 = .ok (.aload_n 0, 1) := by decide +kernel
theorem dX5_sweep_53 : decode cX5_sweep 53 = .ok (.getfield 28, 3) := by decide +kernel
theorem dX5_sweep_56 : decode cX5_sweep 56 = .ok (.iload_n 3, 1) := by decide +kernel
theorem dX5_sweep_57 : decode cX5_sweep 57 = .ok (.iload 4, 2) := by decide +kernel
theorem dX5_sweep_59 : decode cX5_sweep 59 = .ok (.invokestatic 59, 3) := by decide +kernel
theorem dX5_sweep_62 : decode cX5_sweep 62 = .ok (.iinc 2 (-1), 3) := by decide +kernel
theorem dX5_sweep_65 : decode cX5_sweep 65 = .ok (.goto (-56), 3) := by decide +kernel
theorem dX5_sweep_68 : decode cX5_sweep 68 = .ok (.iload_n 1, 1) := by decide +kernel
theorem dX5_sweep_69 : decode cX5_sweep 69 = .ok (.ireturn, 1) := by decide +kernel
theorem dX5_greatestSwept_0 : decode cX5_greatestSwept 0 = .ok (.sipush (-500), 3) := by decide +kernel
theorem dX5_greatestSwept_3 : decode cX5_greatestSwept 3 = .ok (.istore_n 2, 1) := by decide +kernel
theorem dX5_greatestSwept_4 : decode cX5_greatestSwept 4 = .ok (.iconst 0, 1) := by decide +kernel
theorem dX5_greatestSwept_5 : decode cX5_greatestSwept 5 = .ok (.istore_n 3, 1) := by decide +kernel
theorem dX5_greatestSwept_6 : decode cX5_greatestSwept 6 = .ok (.iload_n 3, 1) := by decide +kernel
theorem dX5_greatestSwept_7 : decode cX5_greatestSwept 7 = .ok (.iconst 5, 1) := by decide +kernel
theorem dX5_greatestSwept_8 : decode cX5_greatestSwept 8 = .ok (.if_icmp .gt 33, 3) := by decide +kernel
theorem dX5_greatestSwept_11 : decode cX5_greatestSwept 11 = .ok (.aload_n 0, 1) := by decide +kernel
theorem dX5_greatestSwept_12 : decode cX5_greatestSwept 12 = .ok (.iload_n 1, 1) := by decide +kernel
theorem dX5_greatestSwept_13 : decode cX5_greatestSwept 13 = .ok (.iload_n 3, 1) := by decide +kernel
theorem dX5_greatestSwept_14 : decode cX5_greatestSwept 14 = .ok (.invokevirtual 117, 3) := by decide +kernel
theorem dX5_greatestSwept_17 : decode cX5_greatestSwept 17 = .ok (.ifCond .eq 18, 3) := by decide +kernel
theorem dX5_greatestSwept_20 : decode cX5_greatestSwept 20 = .ok (.iload_n 2, 1) := by decide +kernel
theorem dX5_greatestSwept_21 : decode cX5_greatestSwept 21 = .ok (.aload_n 0, 1) := by decide +kernel
theorem dX5_greatestSwept_22 : decode cX5_greatestSwept 22 = .ok (.aload_n 0, 1) := by decide +kernel
theorem dX5_greatestSwept_23 : decode cX5_greatestSwept 23 = .ok (.getfield 28, 3) := by decide +kernel
theorem dX5_greatestSwept_26 : decode cX5_greatestSwept 26 = .ok (.iload_n 1, 1) := by decide +kernel
theorem dX5_greatestSwept_27 : decode cX5_greatestSwept 27 = .ok (.iload_n 3, 1) := by decide +kernel
theorem dX5_greatestSwept_28 : decode cX5_greatestSwept 28 = .ok (.invokevirtual 113, 3) := by decide +kernel
theorem dX5_greatestSwept_31 : decode cX5_greatestSwept 31 = .ok (.invokestatic 127, 3) := by decide +kernel
theorem dX5_greatestSwept_34 : decode cX5_greatestSwept 34 = .ok (.istore_n 2, 1) := by decide +kernel
theorem dX5_greatestSwept_35 : decode cX5_greatestSwept 35 = .ok (.iinc 3 1, 3) := by decide +kernel
theorem dX5_greatestSwept_38 : decode cX5_greatestSwept 38 = .ok (.goto (-32), 3) := by decide +kernel
theorem dX5_greatestSwept_41 : decode cX5_greatestSwept 41 = .ok (.iload_n 2, 1) := by decide +kernel
theorem dX5_greatestSwept_42 : decode cX5_greatestSwept 42 = .ok (.ireturn, 1) := by decide +kernel
theorem dX5_worthBy_0 : decode cX5_worthBy 0 = .ok (.aload_n 0, 1) := by decide +kernel
theorem dX5_worthBy_1 : decode cX5_worthBy 1 = .ok (.iload_n 2, 1) := by decide +kernel
theorem dX5_worthBy_2 : decode cX5_worthBy 2 = .ok (.iload_n 3, 1) := by decide +kernel
theorem dX5_worthBy_3 : decode cX5_worthBy 3 = .ok (.invokevirtual 110, 3) := by decide +kernel
theorem dX5_worthBy_6 : decode cX5_worthBy 6 = .ok (.istore 4, 2) := by decide +kernel
theorem dX5_worthBy_8 : decode cX5_worthBy 8 = .ok (.iload 4, 2) := by decide +kernel
theorem dX5_worthBy_10 : decode cX5_worthBy 10 = .ok (.iconst (-1), 1) := by decide +kernel
theorem dX5_worthBy_11 : decode cX5_worthBy 11 = .ok (.if_icmp .ne 9, 3) := by decide +kernel
theorem dX5_worthBy_14 : decode cX5_worthBy 14 = .ok (.sipush (-500), 3) := by decide +kernel
theorem dX5_worthBy_17 : decode cX5_worthBy 17 = .ok (.goto 9, 3) := by decide +kernel
theorem dX5_worthBy_20 : decode cX5_worthBy 20 = .ok (.aload_n 1, 1) := by decide +kernel
theorem dX5_worthBy_21 : decode cX5_worthBy 21 = .ok (.iload 4, 2) := by decide +kernel
theorem dX5_worthBy_23 : decode cX5_worthBy 23 = .ok (.invokestatic 98, 3) := by decide +kernel
theorem dX5_worthBy_26 : decode cX5_worthBy 26 = .ok (.invokestatic 124, 3) := by decide +kernel
theorem dX5_worthBy_29 : decode cX5_worthBy 29 = .ok (.ireturn, 1) := by decide +kernel
theorem dX5_oneTurnBefore_0 : decode cX5_oneTurnBefore 0 = .ok (.iload_n 0, 1) := by decide +kernel
theorem dX5_oneTurnBefore_1 : decode cX5_oneTurnBefore 1 = .ok (.ifCond .ge 10, 3) := by decide +kernel
theorem dX5_oneTurnBefore_4 : decode cX5_oneTurnBefore 4 = .ok (.iload_n 0, 1) := by decide +kernel
theorem dX5_oneTurnBefore_5 : decode cX5_oneTurnBefore 5 = .ok (.ineg, 1) := by decide +kernel
theorem dX5_oneTurnBefore_6 : decode cX5_oneTurnBefore 6 = .ok (.iconst 1, 1) := by decide +kernel
theorem dX5_oneTurnBefore_7 : decode cX5_oneTurnBefore 7 = .ok (.isub, 1) := by decide +kernel
theorem dX5_oneTurnBefore_8 : decode cX5_oneTurnBefore 8 = .ok (.goto 6, 3) := by decide +kernel
theorem dX5_oneTurnBefore_11 : decode cX5_oneTurnBefore 11 = .ok (.iconst 1, 1) := by decide +kernel
theorem dX5_oneTurnBefore_12 : decode cX5_oneTurnBefore 12 = .ok (.iload_n 0, 1) := by decide +kernel
theorem dX5_oneTurnBefore_13 : decode cX5_oneTurnBefore 13 = .ok (.isub, 1) := by decide +kernel
theorem dX5_oneTurnBefore_14 : decode cX5_oneTurnBefore 14 = .ok (.ireturn, 1) := by decide +kernel
theorem dX5_isPossible_0 : decode cX5_isPossible 0 = .ok (.iload_n 2, 1) := by decide +kernel
theorem dX5_isPossible_1 : decode cX5_isPossible 1 = .ok (.ifCond .eq 10, 3) := by decide +kernel
theorem dX5_isPossible_4 : decode cX5_isPossible 4 = .ok (.iload_n 1, 1) := by decide +kernel
theorem dX5_isPossible_5 : decode cX5_isPossible 5 = .ok (.invokestatic 53, 3) := by decide +kernel
theorem dX5_isPossible_8 : decode cX5_isPossible 8 = .ok (.ifCond .le 20, 3) := by decide +kernel
theorem dX5_isPossible_11 : decode cX5_isPossible 11 = .ok (.iload_n 2, 1) := by decide +kernel
theorem dX5_isPossible_12 : decode cX5_isPossible 12 = .ok (.ifCond .ne 14, 3) := by decide +kernel
theorem dX5_isPossible_15 : decode cX5_isPossible 15 = .ok (.iload_n 1, 1) := by decide +kernel
theorem dX5_isPossible_16 : decode cX5_isPossible 16 = .ok (.invokestatic 53, 3) := by decide +kernel
theorem dX5_isPossible_19 : decode cX5_isPossible 19 = .ok (.ifCond .le 7, 3) := by decide +kernel
theorem dX5_isPossible_22 : decode cX5_isPossible 22 = .ok (.iconst 1, 1) := by decide +kernel
theorem dX5_isPossible_23 : decode cX5_isPossible 23 = .ok (.goto 4, 3) := by decide +kernel
theorem dX5_isPossible_26 : decode cX5_isPossible 26 = .ok (.iconst 0, 1) := by decide +kernel
theorem dX5_isPossible_27 : decode cX5_isPossible 27 = .ok (.ireturn, 1) := by decide +kernel
theorem dX5_isPossible_28 : decode cX5_isPossible 28 = .ok (.iload_n 2, 1) := by decide +kernel
theorem dX5_isPossible_29 : decode cX5_isPossible 29 = .ok (.iconst 5, 1) := by decide +kernel
theorem dX5_isPossible_30 : decode cX5_isPossible 30 = .ok (.if_icmp .ne 20, 3) := by decide +kernel
theorem dX5_isPossible_33 : decode cX5_isPossible 33 = .ok (.iload_n 1, 1) := by decide +kernel
theorem dX5_isPossible_34 : decode cX5_isPossible 34 = .ok (.iconst 5, 1) := by decide +kernel
theorem dX5_isPossible_35 : decode cX5_isPossible 35 = .ok (.ishr, 1) := by decide +kernel
theorem dX5_isPossible_36 : decode cX5_isPossible 36 = .ok (.iconst 1, 1) := by decide +kernel
theorem dX5_isPossible_37 : decode cX5_isPossible 37 = .ok (.iand, 1) := by decide +kernel
theorem dX5_isPossible_38 : decode cX5_isPossible 38 = .ok (.iconst 1, 1) := by decide +kernel
theorem dX5_isPossible_39 : decode cX5_isPossible 39 = .ok (.if_icmp .ne 7, 3) := by decide +kernel
theorem dX5_isPossible_42 : decode cX5_isPossible 42 = .ok (.iconst 1, 1) := by decide +kernel
theorem dX5_isPossible_43 : decode cX5_isPossible 43 = .ok (.goto 20, 3) := by decide +kernel
theorem dX5_isPossible_46 : decode cX5_isPossible 46 = .ok (.iconst 0, 1) := by decide +kernel
theorem dX5_isPossible_47 : decode cX5_isPossible 47 = .ok (.goto 16, 3) := by decide +kernel
theorem dX5_isPossible_50 : decode cX5_isPossible 50 = .ok (.iload_n 2, 1) := by decide +kernel
theorem dX5_isPossible_51 : decode cX5_isPossible 51 = .ok (.aload_n 0, 1) := by decide +kernel
theorem dX5_isPossible_52 : decode cX5_isPossible 52 = .ok (.getfield 38, 3) := by decide +kernel
theorem dX5_isPossible_55 : decode cX5_isPossible 55 = .ok (.if_icmp .gt 7, 3) := by decide +kernel
theorem dX5_isPossible_58 : decode cX5_isPossible 58 = .ok (.iconst 1, 1) := by decide +kernel
theorem dX5_isPossible_59 : decode cX5_isPossible 59 = .ok (.goto 4, 3) := by decide +kernel
theorem dX5_isPossible_62 : decode cX5_isPossible 62 = .ok (.iconst 0, 1) := by decide +kernel
theorem dX5_isPossible_63 : decode cX5_isPossible 63 = .ok (.ireturn, 1) := by decide +kernel
theorem dX5_after_0 : decode cX5_after 0 = .ok (.iload_n 1, 1) := by decide +kernel
theorem dX5_after_1 : decode cX5_after 1 = .ok (.bipush 10, 2) := by decide +kernel
theorem dX5_after_3 : decode cX5_after 3 = .ok (.ishr, 1) := by decide +kernel
theorem dX5_after_4 : decode cX5_after 4 = .ok (.bipush 15, 2) := by decide +kernel
theorem dX5_after_6 : decode cX5_after 6 = .ok (.iand, 1) := by decide +kernel
theorem dX5_after_7 : decode cX5_after 7 = .ok (.istore_n 3, 1) := by decide +kernel
theorem dX5_after_8 : decode cX5_after 8 = .ok (.iload_n 1, 1) := by decide +kernel
theorem dX5_after_9 : decode cX5_after 9 = .ok (.bipush 6, 2) := by decide +kernel
theorem dX5_after_11 : decode cX5_after 11 = .ok (.ishr, 1) := by decide +kernel
theorem dX5_after_12 : decode cX5_after 12 = .ok (.bipush 15, 2) := by decide +kernel
theorem dX5_after_14 : decode cX5_after 14 = .ok (.iand, 1) := by decide +kernel
theorem dX5_after_15 : decode cX5_after 15 = .ok (.istore 4, 2) := by decide +kernel
theorem dX5_after_17 : decode cX5_after 17 = .ok (.iload_n 1, 1) := by decide +kernel
theorem dX5_after_18 : decode cX5_after 18 = .ok (.iconst 5, 1) := by decide +kernel
theorem dX5_after_19 : decode cX5_after 19 = .ok (.ishr, 1) := by decide +kernel
theorem dX5_after_20 : decode cX5_after 20 = .ok (.iconst 1, 1) := by decide +kernel
theorem dX5_after_21 : decode cX5_after 21 = .ok (.iand, 1) := by decide +kernel
theorem dX5_after_22 : decode cX5_after 22 = .ok (.istore 5, 2) := by decide +kernel
theorem dX5_after_24 : decode cX5_after 24 = .ok (.iconst 0, 1) := by decide +kernel
theorem dX5_after_25 : decode cX5_after 25 = .ok (.istore 6, 2) := by decide +kernel
theorem dX5_after_27 : decode cX5_after 27 = .ok (.iload_n 1, 1) := by decide +kernel
theorem dX5_after_28 : decode cX5_after 28 = .ok (.invokestatic 56, 3) := by decide +kernel
theorem dX5_after_31 : decode cX5_after 31 = .ok (.istore 7, 2) := by decide +kernel
theorem dX5_after_33 : decode cX5_after 33 = .ok (.iload_n 2, 1) := by decide +kernel
theorem dX5_after_34 : decode cX5_after 34 = .ok (.ifCond .ne 18, 3) := by decide +kernel
theorem dX5_after_37 : decode cX5_after 37 = .ok (.iconst 0, 1) := by decide +kernel
theorem dX5_after_38 : decode cX5_after 38 = .ok (.iload_n 1, 1) := by decide +kernel
theorem dX5_after_39 : decode cX5_after 39 = .ok (.invokestatic 53, 3) := by decide +kernel
theorem dX5_after_42 : decode cX5_after 42 = .ok (.iconst 1, 1) := by decide +kernel
theorem dX5_after_43 : decode cX5_after 43 = .ok (.isub, 1) := by decide +kernel
theorem dX5_after_44 : decode cX5_after 44 = .ok (.invokestatic 127, 3) := by decide +kernel
theorem dX5_after_47 : decode cX5_after 47 = .ok (.istore 6, 2) := by decide +kernel
theorem dX5_after_49 : decode cX5_after 49 = .ok (.goto 101, 3) := by decide +kernel
theorem dX5_after_52 : decode cX5_after 52 = .ok (.iload_n 2, 1) := by decide +kernel
theorem dX5_after_53 : decode cX5_after 53 = .ok (.iconst 5, 1) := by decide +kernel
theorem dX5_after_54 : decode cX5_after 54 = .ok (.if_icmp .ne 22, 3) := by decide +kernel
theorem dX5_after_57 : decode cX5_after 57 = .ok (.iconst 0, 1) := by decide +kernel
theorem dX5_after_58 : decode cX5_after 58 = .ok (.istore 5, 2) := by decide +kernel
theorem dX5_after_60 : decode cX5_after 60 = .ok (.iconst 3, 1) := by decide +kernel
theorem dX5_after_61 : decode cX5_after 61 = .ok (.iload 7, 2) := by decide +kernel
theorem dX5_after_63 : decode cX5_after 63 = .ok (.aload_n 0, 1) := by decide +kernel
theorem dX5_after_64 : decode cX5_after 64 = .ok (.getfield 41, 3) := by decide +kernel
theorem dX5_after_67 : decode cX5_after 67 = .ok (.iadd, 1) := by decide +kernel
theorem dX5_after_68 : decode cX5_after 68 = .ok (.invokestatic 138, 3) := by decide +kernel
theorem dX5_after_71 : decode cX5_after 71 = .ok (.istore 7, 2) := by decide +kernel
theorem dX5_after_73 : decode cX5_after 73 = .ok (.goto 77, 3) := by decide +kernel
theorem dX5_after_76 : decode cX5_after 76 = .ok (.aload_n 0, 1) := by decide +kernel
theorem dX5_after_77 : decode cX5_after 77 = .ok (.getfield 18, 3) := by decide +kernel
theorem dX5_after_80 : decode cX5_after 80 = .ok (.iload_n 3, 1) := by decide +kernel
theorem dX5_after_81 : decode cX5_after 81 = .ok (.bipush 6, 2) := by decide +kernel
theorem dX5_after_83 : decode cX5_after 83 = .ok (.ishl, 1) := by decide +kernel
theorem dX5_after_84 : decode cX5_after 84 = .ok (.iload 4, 2) := by decide +kernel
theorem dX5_after_86 : decode cX5_after 86 = .ok (.iconst 2, 1) := by decide +kernel
theorem dX5_after_87 : decode cX5_after 87 = .ok (.ishl, 1) := by decide +kernel
theorem dX5_after_88 : decode cX5_after 88 = .ok (.ior, 1) := by decide +kernel
theorem dX5_after_89 : decode cX5_after 89 = .ok (.iload_n 2, 1) := by decide +kernel
theorem dX5_after_90 : decode cX5_after 90 = .ok (.iconst 1, 1) := by decide +kernel
theorem dX5_after_91 : decode cX5_after 91 = .ok (.isub, 1) := by decide +kernel
theorem dX5_after_92 : decode cX5_after 92 = .ok (.ior, 1) := by decide +kernel
theorem dX5_after_93 : decode cX5_after 93 = .ok (.invokestatic 98, 3) := by decide +kernel
theorem dX5_after_96 : decode cX5_after 96 = .ok (.istore_n 3, 1) := by decide +kernel
theorem dX5_after_97 : decode cX5_after 97 = .ok (.aload_n 0, 1) := by decide +kernel
theorem dX5_after_98 : decode cX5_after 98 = .ok (.getfield 12, 3) := by decide +kernel
theorem dX5_after_101 : decode cX5_after 101 = .ok (.iload_n 3, 1) := by decide +kernel
theorem dX5_after_102 : decode cX5_after 102 = .ok (.invokevirtual 141, 3) := by decide +kernel
theorem dX5_after_105 : decode cX5_after 105 = .ok (.ifCond .eq 5, 3) := by decide +kernel
theorem dX5_after_108 : decode cX5_after 108 = .ok (.iconst (-1), 1) := by decide +kernel
theorem dX5_after_109 : decode cX5_after 109 = .ok (.ireturn, 1) := by decide +kernel
theorem dX5_after_110 : decode cX5_after 110 = .ok (.aload_n 0, 1) := by decide +kernel
theorem dX5_after_111 : decode cX5_after 111 = .ok (.getfield 12, 3) := by decide +kernel
theorem dX5_after_114 : decode cX5_after 114 = .ok (.getfield 145, 3) := by decide +kernel
theorem dX5_after_117 : decode cX5_after 117 = .ok (.iload_n 3, 1) := by decide +kernel
theorem dX5_after_118 : decode cX5_after 118 = .ok (.invokestatic 98, 3) := by decide +kernel
theorem dX5_after_121 : decode cX5_after 121 = .ok (.istore 8, 2) := by decide +kernel
theorem dX5_after_123 : decode cX5_after 123 = .ok (.iload 8, 2) := by decide +kernel
theorem dX5_after_125 : decode cX5_after 125 = .ok (.iconst 3, 1) := by decide +kernel
theorem dX5_after_126 : decode cX5_after 126 = .ok (.if_icmp .ne 7, 3) := by decide +kernel
theorem dX5_after_129 : decode cX5_after 129 = .ok (.iconst 1, 1) := by decide +kernel
theorem dX5_after_130 : decode cX5_after 130 = .ok (.goto 5, 3) := by decide +kernel
theorem dX5_after_133 : decode cX5_after 133 = .ok (.iload 5, 2) := by decide +kernel
theorem dX5_after_135 : decode cX5_after 135 = .ok (.istore 5, 2) := by decide +kernel
theorem dX5_after_137 : decode cX5_after 137 = .ok (.iload 8, 2) := by decide +kernel
theorem dX5_after_139 : decode cX5_after 139 = .ok (.iconst 1, 1) := by decide +kernel
theorem dX5_after_140 : decode cX5_after 140 = .ok (.if_icmp .ne 7, 3) := by decide +kernel
theorem dX5_after_143 : decode cX5_after 143 = .ok (.iconst 1, 1) := by decide +kernel
theorem dX5_after_144 : decode cX5_after 144 = .ok (.goto 4, 3) := by decide +kernel
theorem dX5_after_147 : decode cX5_after 147 = .ok (.iconst 0, 1) := by decide +kernel
theorem dX5_after_148 : decode cX5_after 148 = .ok (.istore 6, 2) := by decide +kernel
theorem dX5_after_150 : decode cX5_after 150 = .ok (.iload 4, 2) := by decide +kernel
theorem dX5_after_152 : decode cX5_after 152 = .ok (.bipush 10, 2) := by decide +kernel
theorem dX5_after_154 : decode cX5_after 154 = .ok (.ishl, 1) := by decide +kernel
theorem dX5_after_155 : decode cX5_after 155 = .ok (.iload_n 3, 1) := by decide +kernel
theorem dX5_after_156 : decode cX5_after 156 = .ok (.bipush 6, 2) := by decide +kernel
theorem dX5_after_158 : decode cX5_after 158 = .ok (.ishl, 1) := by decide +kernel
theorem dX5_after_159 : decode cX5_after 159 = .ok (.ior, 1) := by decide +kernel
theorem dX5_after_160 : decode cX5_after 160 = .ok (.iload_n 1, 1) := by decide +kernel
theorem dX5_after_161 : decode cX5_after 161 = .ok (.iconst 4, 1) := by decide +kernel
theorem dX5_after_162 : decode cX5_after 162 = .ok (.ishr, 1) := by decide +kernel
theorem dX5_after_163 : decode cX5_after 163 = .ok (.iconst 1, 1) := by decide +kernel
theorem dX5_after_164 : decode cX5_after 164 = .ok (.iand, 1) := by decide +kernel
theorem dX5_after_165 : decode cX5_after 165 = .ok (.iconst 5, 1) := by decide +kernel
theorem dX5_after_166 : decode cX5_after 166 = .ok (.ishl, 1) := by decide +kernel
theorem dX5_after_167 : decode cX5_after 167 = .ok (.ior, 1) := by decide +kernel
theorem dX5_after_168 : decode cX5_after 168 = .ok (.iload 5, 2) := by decide +kernel
theorem dX5_after_170 : decode cX5_after 170 = .ok (.iconst 4, 1) := by decide +kernel
theorem dX5_after_171 : decode cX5_after 171 = .ok (.ishl, 1) := by decide +kernel
theorem dX5_after_172 : decode cX5_after 172 = .ok (.ior, 1) := by decide +kernel
theorem dX5_after_173 : decode cX5_after 173 = .ok (.iload 7, 2) := by decide +kernel
theorem dX5_after_175 : decode cX5_after 175 = .ok (.iconst 2, 1) := by decide +kernel
theorem dX5_after_176 : decode cX5_after 176 = .ok (.ishl, 1) := by decide +kernel
theorem dX5_after_177 : decode cX5_after 177 = .ok (.ior, 1) := by decide +kernel
theorem dX5_after_178 : decode cX5_after 178 = .ok (.iload 6, 2) := by decide +kernel
theorem dX5_after_180 : decode cX5_after 180 = .ok (.ior, 1) := by decide +kernel
theorem dX5_after_181 : decode cX5_after 181 = .ok (.ireturn, 1) := by decide +kernel
theorem dX5_standOf_0 : decode cX5_standOf 0 = .ok (.aload_n 0, 1) := by decide +kernel
theorem dX5_standOf_1 : decode cX5_standOf 1 = .ok (.invokevirtual 148, 3) := by decide +kernel
theorem dX5_standOf_4 : decode cX5_standOf 4 = .ok (.astore_n 1, 1) := by decide +kernel
theorem dX5_standOf_5 : decode cX5_standOf 5 = .ok (.aload_n 0, 1) := by decide +kernel
theorem dX5_standOf_6 : decode cX5_standOf 6 = .ok (.invokevirtual 152, 3) := by decide +kernel
theorem dX5_standOf_9 : decode cX5_standOf 9 = .ok (.astore_n 2, 1) := by decide +kernel
theorem dX5_standOf_10 : decode cX5_standOf 10 = .ok (.aload_n 1, 1) := by decide +kernel
theorem dX5_standOf_11 : decode cX5_standOf 11 = .ok (.getfield 155, 3) := by decide +kernel

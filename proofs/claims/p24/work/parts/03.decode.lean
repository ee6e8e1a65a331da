theorem dX0_init_0 : decode cX0_init 0 = .ok (.aload_n 0, 1) := by decide +kernel
theorem dX0_init_1 : decode cX0_init 1 = .ok (.invokespecial 3, 3) := by decide +kernel
theorem dX0_init_4 : decode cX0_init 4 = .ok (.aload_n 0, 1) := by decide +kernel
theorem dX0_init_5 : decode cX0_init 5 = .ok (.bipush 6, 2) := by decide +kernel
theorem dX0_init_7 : decode cX0_init 7 = .ok (.anewarray 9, 3) := by decide +kernel
theorem dX0_init_10 : decode cX0_init 10 = .ok (.putfield 11, 3) := by decide +kernel
theorem dX0_init_13 : decode cX0_init 13 = .ok (.aload_n 0, 1) := by decide +kernel
theorem dX0_init_14 : decode cX0_init 14 = .ok (.iconst 0, 1) := by decide +kernel
theorem dX0_init_15 : decode cX0_init 15 = .ok (.putfield 17, 3) := by decide +kernel
theorem dX0_init_18 : decode cX0_init 18 = .ok (.iconst 0, 1) := by decide +kernel
theorem dX0_init_19 : decode cX0_init 19 = .ok (.istore_n 1, 1) := by decide +kernel
theorem dX0_init_20 : decode cX0_init 20 = .ok (.iload_n 1, 1) := by decide +kernel
theorem dX0_init_21 : decode cX0_init 21 = .ok (.bipush 6, 2) := by decide +kernel
theorem dX0_init_23 : decode cX0_init 23 = .ok (.if_icmp .ge 22, 3) := by decide +kernel
theorem dX0_init_26 : decode cX0_init 26 = .ok (.aload_n 0, 1) := by decide +kernel
theorem dX0_init_27 : decode cX0_init 27 = .ok (.getfield 11, 3) := by decide +kernel
theorem dX0_init_30 : decode cX0_init 30 = .ok (.iload_n 1, 1) := by decide +kernel
theorem dX0_init_31 : decode cX0_init 31 = .ok (.new 9, 3) := by decide +kernel
theorem dX0_init_34 : decode cX0_init 34 = .ok (.dup, 1) := by decide +kernel
theorem dX0_init_35 : decode cX0_init 35 = .ok (.invokespecial 21, 3) := by decide +kernel
theorem dX0_init_38 : decode cX0_init 38 = .ok (.aastore, 1) := by decide +kernel
theorem dX0_init_39 : decode cX0_init 39 = .ok (.iinc 1 1, 3) := by decide +kernel
theorem dX0_init_42 : decode cX0_init 42 = .ok (.goto (-22), 3) := by decide +kernel
theorem dX0_init_45 : decode cX0_init 45 = .ok (.return_, 1) := by decide +kernel
theorem dX0_record_0 : decode cX0_record 0 = .ok (.aload_n 0, 1) := by decide +kernel
theorem dX0_record_1 : decode cX0_record 1 = .ok (.getfield 17, 3) := by decide +kernel
theorem dX0_record_4 : decode cX0_record 4 = .ok (.bipush 6, 2) := by decide +kernel
theorem dX0_record_6 : decode cX0_record 6 = .ok (.if_icmp .lt 7, 3) := by decide +kernel
theorem dX0_record_9 : decode cX0_record 9 = .ok (.aload_n 0, 1) := by decide +kernel
theorem dX0_record_10 : decode cX0_record 10 = .ok (.invokevirtual 22, 3) := by decide +kernel
theorem dX0_record_13 : decode cX0_record 13 = .ok (.aload_n 0, 1) := by decide +kernel
theorem dX0_record_14 : decode cX0_record 14 = .ok (.getfield 11, 3) := by decide +kernel
theorem dX0_record_17 : decode cX0_record 17 = .ok (.aload_n 0, 1) := by decide +kernel
theorem dX0_record_18 : decode cX0_record 18 = .ok (.getfield 17, 3) := by decide +kernel
theorem dX0_record_21 : decode cX0_record 21 = .ok (.aaload, 1) := by decide +kernel
theorem dX0_record_22 : decode cX0_record 22 = .ok (.aload_n 1, 1) := by decide +kernel
theorem dX0_record_23 : decode cX0_record 23 = .ok (.invokevirtual 25, 3) := by decide +kernel
theorem dX0_record_26 : decode cX0_record 26 = .ok (.aload_n 0, 1) := by decide +kernel
theorem dX0_record_27 : decode cX0_record 27 = .ok (.dup, 1) := by decide +kernel
theorem dX0_record_28 : decode cX0_record 28 = .ok (.getfield 17, 3) := by decide +kernel
theorem dX0_record_31 : decode cX0_record 31 = .ok (.iconst 1, 1) := by decide +kernel
theorem dX0_record_32 : decode cX0_record 32 = .ok (.iadd, 1) := by decide +kernel
theorem dX0_record_33 : decode cX0_record 33 = .ok (.putfield 17, 3) := by decide +kernel
theorem dX0_record_36 : decode cX0_record 36 = .ok (.return_, 1) := by decide +kernel
theorem dX0_dropOldest_0 : decode cX0_dropOldest 0 = .ok (.aload_n 0, 1) := by decide +kernel
theorem dX0_dropOldest_1 : decode cX0_dropOldest 1 = .ok (.getfield 11, 3) := by decide +kernel
theorem dX0_dropOldest_4 : decode cX0_dropOldest 4 = .ok (.iconst 0, 1) := by decide +kernel
theorem dX0_dropOldest_5 : decode cX0_dropOldest 5 = .ok (.aaload, 1) := by decide +kernel
theorem dX0_dropOldest_6 : decode cX0_dropOldest 6 = .ok (.astore_n 1, 1) := by decide +kernel
theorem dX0_dropOldest_7 : decode cX0_dropOldest 7 = .ok (.iconst 1, 1) := by decide +kernel
theorem dX0_dropOldest_8 : decode cX0_dropOldest 8 = .ok (.istore_n 2, 1) := by decide +kernel
theorem dX0_dropOldest_9 : decode cX0_dropOldest 9 = .ok (.iload_n 2, 1) := by decide +kernel
theorem dX0_dropOldest_10 : decode cX0_dropOldest 10 = .ok (.bipush 6, 2) := by decide +kernel
theorem dX0_dropOldest_12 : decode cX0_dropOldest 12 = .ok (.if_icmp .ge 23, 3) := by decide +kernel
theorem dX0_dropOldest_15 : decode cX0_dropOldest 15 = .ok (.aload_n 0, 1) := by decide +kernel
theorem dX0_dropOldest_16 : decode cX0_dropOldest 16 = .ok (.getfield 11, 3) := by decide +kernel
theorem dX0_dropOldest_19 : decode cX0_dropOldest 19 = .ok (.iload_n 2, 1) := by decide +kernel
theorem dX0_dropOldest_20 : decode cX0_dropOldest 20 = .ok (.iconst 1, 1) := by decide +kernel
theorem dX0_dropOldest_21 : decode cX0_dropOldest 21 = .ok (.isub, 1) := by decide +kernel
theorem dX0_dropOldest_22 : decode cX0_dropOldest 22 = .ok (.aload_n 0, 1) := by decide +kernel
theorem dX0_dropOldest_23 : decode cX0_dropOldest 23 = .ok (.getfield 11, 3) := by decide +kernel
theorem dX0_dropOldest_26 : decode cX0_dropOldest 26 = .ok (.iload_n 2, 1) := by decide +kernel
theorem dX0_dropOldest_27 : decode cX0_dropOldest 27 = .ok (.aaload, 1) := by decide +kernel
theorem dX0_dropOldest_28 : decode cX0_dropOldest 28 = .ok (.aastore, 1) := by decide +kernel
theorem dX0_dropOldest_29 : decode cX0_dropOldest 29 = .ok (.iinc 2 1, 3) := by decide +kernel
theorem dX0_dropOldest_32 : decode cX0_dropOldest 32 = .ok (.goto (-23), 3) := by decide +kernel
theorem dX0_dropOldest_35 : decode cX0_dropOldest 35 = .ok (.aload_n 0, 1) := by decide +kernel
theorem dX0_dropOldest_36 : decode cX0_dropOldest 36 = .ok (.getfield 11, 3) := by decide +kernel
theorem dX0_dropOldest_39 : decode cX0_dropOldest 39 = .ok (.iconst 5, 1) := by decide +kernel
theorem dX0_dropOldest_40 : decode cX0_dropOldest 40 = .ok (.aload_n 1, 1) := by decide +kernel
theorem dX0_dropOldest_41 : decode cX0_dropOldest 41 = .ok (.aastore, 1) := by decide +kernel
theorem dX0_dropOldest_42 : decode cX0_dropOldest 42 = .ok (.aload_n 0, 1) := by decide +kernel
theorem dX0_dropOldest_43 : decode cX0_dropOldest 43 = .ok (.iconst 5, 1) := by decide +kernel
theorem dX0_dropOldest_44 : decode cX0_dropOldest 44 = .ok (.putfield 17, 3) := by decide +kernel
theorem dX0_dropOldest_47 : decode cX0_dropOldest 47 = .ok (.return_, 1) := by decide +kernel
theorem dX0_takeBack_0 : decode cX0_takeBack 0 = .ok (.aload_n 0, 1) := by decide +kernel
theorem dX0_takeBack_1 : decode cX0_takeBack 1 = .ok (.getfield 17, 3) := by decide +kernel
theorem dX0_takeBack_4 : decode cX0_takeBack 4 = .ok (.ifCond .le 26, 3) := by decide +kernel
theorem dX0_takeBack_7 : decode cX0_takeBack 7 = .ok (.aload_n 0, 1) := by decide +kernel
theorem dX0_takeBack_8 : decode cX0_takeBack 8 = .ok (.dup, 1) := by decide +kernel
theorem dX0_takeBack_9 : decode cX0_takeBack 9 = .ok (.getfield 17, 3) := by decide +kernel
theorem dX0_takeBack_12 : decode cX0_takeBack 12 = .ok (.iconst 1, 1) := by decide +kernel
theorem dX0_takeBack_13 : decode cX0_takeBack 13 = .ok (.isub, 1) := by decide +kernel
theorem dX0_takeBack_14 : decode cX0_takeBack 14 = .ok (.putfield 17, 3) := by decide +kernel
theorem dX0_takeBack_17 : decode cX0_takeBack 17 = .ok (.aload_n 1, 1) := by decide +kernel
theorem dX0_takeBack_18 : decode cX0_takeBack 18 = .ok (.aload_n 0, 1) := by decide +kernel
theorem dX0_takeBack_19 : decode cX0_takeBack 19 = .ok (.getfield 11, 3) := by decide +kernel
theorem dX0_takeBack_22 : decode cX0_takeBack 22 = .ok (.aload_n 0, 1) := by decide +kernel
theorem dX0_takeBack_23 : decode cX0_takeBack 23 = .ok (.getfield 17, 3) := by decide +kernel
theorem dX0_takeBack_26 : decode cX0_takeBack 26 = .ok (.aaload, 1) := by decide +kernel
theorem dX0_takeBack_27 : decode cX0_takeBack 27 = .ok (.invokevirtual 25, 3) := by decide +kernel
theorem dX0_takeBack_30 : decode cX0_takeBack 30 = .ok (.return_, 1) := by decide +kernel
theorem dX1_init_0 : decode cX1_init 0 = .ok (.aload_n 0, 1) := by decide +kernel
theorem dX1_init_1 : decode cX1_init 1 = .ok (.invokespecial 3, 3) := by decide +kernel
theorem dX1_init_4 : decode cX1_init 4 = .ok (.aload_n 0, 1) := by decide +kernel
theorem dX1_init_5 : decode cX1_init 5 = .ok (.bipush 80, 2) := by decide +kernel
theorem dX1_init_7 : decode cX1_init 7 = .ok (.newarray .char, 2) := by decide +kernel
theorem dX1_init_9 : decode cX1_init 9 = .ok (.putfield 9, 3) := by decide +kernel
theorem dX1_init_12 : decode cX1_init 12 = .ok (.aload_n 0, 1) := by decide +kernel
theorem dX1_init_13 : decode cX1_init 13 = .ok (.iconst 0, 1) := by decide +kernel
theorem dX1_init_14 : decode cX1_init 14 = .ok (.putfield 15, 3) := by decide +kernel
theorem dX1_init_17 : decode cX1_init 17 = .ok (.aload_n 0, 1) := by decide +kernel
theorem dX1_init_18 : decode cX1_init 18 = .ok (.bipush 80, 2) := by decide +kernel
theorem dX1_init_20 : decode cX1_init 20 = .ok (.newarray .int, 2) := by decide +kernel
theorem dX1_init_22 : decode cX1_init 22 = .ok (.putfield 19, 3) := by decide +kernel
theorem dX1_init_25 : decode cX1_init 25 = .ok (.aload_n 0, 1) := by decide +kernel
theorem dX1_init_26 : decode cX1_init 26 = .ok (.iconst 0, 1) := by decide +kernel
theorem dX1_init_27 : decode cX1_init 27 = .ok (.putfield 23, 3) := by decide +kernel
theorem dX1_init_30 : decode cX1_init 30 = .ok (.aload_n 0, 1) := by decide +kernel
theorem dX1_init_31 : decode cX1_init 31 = .ok (.iconst (-1), 1) := by decide +kernel
theorem dX1_init_32 : decode cX1_init 32 = .ok (.putfield 26, 3) := by decide +kernel
theorem dX1_init_35 : decode cX1_init 35 = .ok (.return_, 1) := by decide +kernel
theorem dX2_init_0 : decode cX2_init 0 = .ok (.aload_n 0, 1) := by decide +kernel
theorem dX2_init_1 : decode cX2_init 1 = .ok (.invokespecial 3, 3) := by decide +kernel
theorem dX2_init_4 : decode cX2_init 4 = .ok (.aload_n 0, 1) := by decide +kernel
theorem dX2_init_5 : decode cX2_init 5 = .ok (.bipush 16, 2) := by decide +kernel
theorem dX2_init_7 : decode cX2_init 7 = .ok (.newarray .int, 2) := by decide +kernel
theorem dX2_init_9 : decode cX2_init 9 = .ok (.putfield 9, 3) := by decide +kernel
theorem dX2_init_12 : decode cX2_init 12 = .ok (.aload_n 0, 1) := by decide +kernel
theorem dX2_init_13 : decode cX2_init 13 = .ok (.bipush 16, 2) := by decide +kernel
theorem dX2_init_15 : decode cX2_init 15 = .ok (.newarray .int, 2) := by decide +kernel
theorem dX2_init_17 : decode cX2_init 17 = .ok (.putfield 15, 3) := by decide +kernel
theorem dX2_init_20 : decode cX2_init 20 = .ok (.aload_n 0, 1) := by decide +kernel
theorem dX2_init_21 : decode cX2_init 21 = .ok (.bipush 16, 2) := by decide +kernel
theorem dX2_init_23 : decode cX2_init 23 = .ok (.newarray .int, 2) := by decide +kernel
theorem dX2_init_25 : decode cX2_init 25 = .ok (.putfield 18, 3) := by decide +kernel
theorem dX2_init_28 : decode cX2_init 28 = .ok (.aload_n 0, 1) := by decide +kernel
theorem dX2_init_29 : decode cX2_init 29 = .ok (.bipush 30, 2) := by decide +kernel
theorem dX2_init_31 : decode cX2_init 31 = .ok (.newarray .int, 2) := by decide +kernel
theorem dX2_init_33 : decode cX2_init 33 = .ok (.putfield 21, 3) := by decide +kernel
theorem dX2_init_36 : decode cX2_init 36 = .ok (.aload_n 0, 1) := by decide +kernel
theorem dX2_init_37 : decode cX2_init 37 = .ok (.bipush 16, 2) := by decide +kernel
theorem dX2_init_39 : decode cX2_init 39 = .ok (.newarray .int, 2) := by decide +kernel
theorem dX2_init_41 : decode cX2_init 41 = .ok (.putfield 24, 3) := by decide +kernel
theorem dX2_init_44 : decode cX2_init 44 = .ok (.aload_n 0, 1) := by decide +kernel
theorem dX2_init_45 : decode cX2_init 45 = .ok (.aload_n 1, 1) := by decide +kernel
theorem dX2_init_46 : decode cX2_init 46 = .ok (.putfield 27, 3) := by decide +kernel
theorem dX2_init_49 : decode cX2_init 49 = .ok (.aload_n 0, 1) := by decide +kernel
theorem dX2_init_50 : decode cX2_init 50 = .ok (.invokevirtual 31, 3) := by decide +kernel
theorem dX2_init_53 : decode cX2_init 53 = .ok (.return_, 1) := by decide +kernel
theorem dX2_renew_0 : decode cX2_renew 0 = .ok (.aload_n 0, 1) := by decide +kernel
theorem dX2_renew_1 : decode cX2_renew 1 = .ok (.invokevirtual 34, 3) := by decide +kernel
theorem dX2_renew_4 : decode cX2_renew 4 = .ok (.aload_n 0, 1) := by decide +kernel
theorem dX2_renew_5 : decode cX2_renew 5 = .ok (.invokevirtual 37, 3) := by decide +kernel
theorem dX2_renew_8 : decode cX2_renew 8 = .ok (.aload_n 0, 1) := by decide +kernel
theorem dX2_renew_9 : decode cX2_renew 9 = .ok (.invokevirtual 40, 3) := by decide +kernel
theorem dX2_renew_12 : decode cX2_renew 12 = .ok (.return_, 1) := by decide +kernel
theorem dX2_findPieces_0 : decode cX2_findPieces 0 = .ok (.iconst 0, 1) := by decide +kernel
theorem dX2_findPieces_1 : decode cX2_findPieces 1 = .ok (.istore_n 1, 1) := by decide +kernel
theorem dX2_findPieces_2 : decode cX2_findPieces 2 = .ok (.aload_n 0, 1) := by decide +kernel
theorem dX2_findPieces_3 : decode cX2_findPieces 3 = .ok (.iconst 0, 1) := by decide +kernel
theorem dX2_findPieces_4 : decode cX2_findPieces 4 = .ok (.putfield 43, 3) := by decide +kernel
theorem dX2_findPieces_7 : decode cX2_findPieces 7 = .ok (.iconst 0, 1) := by decide +kernel
theorem dX2_findPieces_8 : decode cX2_findPieces 8 = .ok (.istore_n 2, 1) := by decide +kernel
theorem dX2_findPieces_9 : decode cX2_findPieces 9 = .ok (.iload_n 2, 1) := by decide +kernel
theorem dX2_findPieces_10 : decode cX2_findPieces 10 = .ok (.aload_n 0, 1) := by decide +kernel
theorem dX2_findPieces_11 : decode cX2_findPieces 11 = .ok (.getfield 27, 3) := by decide +kernel
theorem dX2_findPieces_14 : decode cX2_findPieces 14 = .ok (.getfield 47, 3) := by decide +kernel
theorem dX2_findPieces_17 : decode cX2_findPieces 17 = .ok (.if_icmp .ge 56, 3) := by decide +kernel
theorem dX2_findPieces_20 : decode cX2_findPieces 20 = .ok (.iload_n 1, 1) := by decide +kernel
theorem dX2_findPieces_21 : decode cX2_findPieces 21 = .ok (.iload_n 2, 1) := by decide +kernel
theorem dX2_findPieces_22 : decode cX2_findPieces 22 = .ok (.invokestatic 52, 3) := by decide +kernel
theorem dX2_findPieces_25 : decode cX2_findPieces 25 = .ok (.ifCond .ne 42, 3) := by decide +kernel
theorem dX2_findPieces_28 : decode cX2_findPieces 28 = .ok (.aload_n 0, 1) := by decide +kernel
theorem dX2_findPieces_29 : decode cX2_findPieces 29 = .ok (.getfield 27, 3) := by decide +kernel
theorem dX2_findPieces_32 : decode cX2_findPieces 32 = .ok (.iload_n 2, 1) := by decide +kernel
theorem dX2_findPieces_33 : decode cX2_findPieces 33 = .ok (.aload_n 0, 1) := by decide +kernel
theorem dX2_findPieces_34 : decode cX2_findPieces 34 = .ok (.getfield 27, 3) := by decide +kernel
theorem dX2_findPieces_37 : decode cX2_findPieces 37 = .ok (.invokevirtual 56, 3) := by decide +kernel
theorem dX2_findPieces_40 : decode cX2_findPieces 40 = .ok (.invokevirtual 60, 3) := by decide +kernel
theorem dX2_findPieces_43 : decode cX2_findPieces 43 = .ok (.istore_n 3, 1) := by decide +kernel
theorem dX2_findPieces_44 : decode cX2_findPieces 44 = .ok (.aload_n 0, 1) := by decide +kernel
theorem dX2_findPieces_45 : decode cX2_findPieces 45 = .ok (.getfield 9, 3) := by decide +kernel
theorem dX2_findPieces_48 : decode cX2_findPieces 48 = .ok (.iload_n 3, 1) := by decide +kernel
theorem dX2_findPieces_49 : decode cX2_findPieces 49 = .ok (.iload_n 3, 1) := by decide +kernel
theorem dX2_findPieces_50 : decode cX2_findPieces 50 = .ok (.invokestatic 64, 3) := by decide +kernel
theorem dX2_findPieces_53 : decode cX2_findPieces 53 = .ok (.iload_n 1, 1) := by decide +kernel
theorem dX2_findPieces_54 : decode cX2_findPieces 54 = .ok (.iload_n 3, 1) := by decide +kernel
theorem dX2_findPieces_55 : decode cX2_findPieces 55 = .ok (.ior, 1) := by decide +kernel
theorem dX2_findPieces_56 : decode cX2_findPieces 56 = .ok (.istore_n 1, 1) := by decide +kernel
theorem dX2_findPieces_57 : decode cX2_findPieces 57 = .ok (.aload_n 0, 1) := by decide +kernel
theorem dX2_findPieces_58 : decode cX2_findPieces 58 = .ok (.dup, 1) := by decide +kernel
theorem dX2_findPieces_59 : decode cX2_findPieces 59 = .ok (.getfield 43, 3) := by decide +kernel
theorem dX2_findPieces_62 : decode cX2_findPieces 62 = .ok (.iconst 1, 1) := by decide +kernel
theorem dX2_findPieces_63 : decode cX2_findPieces 63 = .ok (.iadd, 1) := by decide +kernel
theorem dX2_findPieces_64 : decode cX2_findPieces 64 = .ok (.putfield 43, 3) := by decide +kernel
theorem dX2_findPieces_67 : decode cX2_findPieces 67 = .ok (.iinc 2 1, 3) := by decide +kernel
theorem dX2_findPieces_70 : decode cX2_findPieces 70 = .ok (.goto (-61), 3) := by decide +kernel
theorem dX2_findPieces_73 : decode cX2_findPieces 73 = .ok (.return_, 1) := by decide +kernel
theorem dX2_findPartingRoads_0 : decode cX2_findPartingRoads 0 = .ok (.aload_n 0, 1) := by decide +kernel
theorem dX2_findPartingRoads_1 : decode cX2_findPartingRoads 1 = .ok (.iconst 0, 1) := by decide +kernel
theorem dX2_findPartingRoads_2 : decode cX2_findPartingRoads 2 = .ok (.putfield 68, 3) := by decide +kernel
theorem dX2_findPartingRoads_5 : decode cX2_findPartingRoads 5 = .ok (.iconst 0, 1) := by decide +kernel
theorem dX2_findPartingRoads_6 : decode cX2_findPartingRoads 6 = .ok (.istore_n 1, 1) := by decide +kernel
theorem dX2_findPartingRoads_7 : decode cX2_findPartingRoads 7 = .ok (.iload_n 1, 1) := by decide +kernel
theorem dX2_findPartingRoads_8 : decode cX2_findPartingRoads 8 = .ok (.aload_n 0, 1) := by decide +kernel
theorem dX2_findPartingRoads_9 : decode cX2_findPartingRoads 9 = .ok (.getfield 27, 3) := by decide +kernel
theorem dX2_findPartingRoads_12 : decode cX2_findPartingRoads 12 = .ok (.getfield 71, 3) := by decide +kernel
theorem dX2_findPartingRoads_15 : decode cX2_findPartingRoads 15 = .ok (.if_icmp .ge 77, 3) := by decide +kernel
theorem dX2_findPartingRoads_18 : decode cX2_findPartingRoads 18 = .ok (.aload_n 0, 1) := by decide +kernel
theorem dX2_findPartingRoads_19 : decode cX2_findPartingRoads 19 = .ok (.getfield 21, 3) := by decide +kernel
theorem dX2_findPartingRoads_22 : decode cX2_findPartingRoads 22 = .ok (.iload_n 1, 1) := by decide +kernel
theorem dX2_findPartingRoads_23 : decode cX2_findPartingRoads 23 = .ok (.aload_n 0, 1) := by decide +kernel
theorem dX2_findPartingRoads_24 : decode cX2_findPartingRoads 24 = .ok (.getfield 27, 3) := by decide +kernel
theorem dX2_findPartingRoads_27 : decode cX2_findPartingRoads 27 = .ok (.aload_n 0, 1) := by decide +kernel
theorem dX2_findPartingRoads_28 : decode cX2_findPartingRoads 28 = .ok (.getfield 27, 3) := by decide +kernel
theorem dX2_findPartingRoads_31 : decode cX2_findPartingRoads 31 = .ok (.getfield 74, 3) := by decide +kernel
theorem dX2_findPartingRoads_34 : decode cX2_findPartingRoads 34 = .ok (.iload_n 1, 1) := by decide +kernel
theorem dX2_findPartingRoads_35 : decode cX2_findPartingRoads 35 = .ok (.iaload, 1) := by decide +kernel
theorem dX2_findPartingRoads_36 : decode cX2_findPartingRoads 36 = .ok (.aload_n 0, 1) := by decide +kernel
theorem dX2_findPartingRoads_37 : decode cX2_findPartingRoads 37 = .ok (.getfield 27, 3) := by decide +kernel
theorem dX2_findPartingRoads_40 : decode cX2_findPartingRoads 40 = .ok (.invokevirtual 56, 3) := by decide +kernel
theorem dX2_findPartingRoads_43 : decode cX2_findPartingRoads 43 = .ok (.iconst 1, 1) := by decide +kernel
theorem dX2_findPartingRoads_44 : decode cX2_findPartingRoads 44 = .ok (.iload_n 1, 1) := by decide +kernel
theorem dX2_findPartingRoads_45 : decode cX2_findPartingRoads 45 = .ok (.ishl, 1) := by decide +kernel
theorem dX2_findPartingRoads_46 : decode cX2_findPartingRoads 46 = .ok (.iconst (-1), 1) := by decide +kernel
theorem dX2_findPartingRoads_47 : decode cX2_findPartingRoads 47 = .ok (.ixor, 1) := by decide +kernel
theorem dX2_findPartingRoads_48 : decode cX2_findPartingRoads 48 = .ok (.iand, 1) := by decide +kernel
theorem dX2_findPartingRoads_49 : decode cX2_findPartingRoads 49 = .ok (.invokevirtual 60, 3) := by decide +kernel
theorem dX2_findPartingRoads_52 : decode cX2_findPartingRoads 52 = .ok (.iastore, 1) := by decide +kernel
theorem dX2_findPartingRoads_53 : decode cX2_findPartingRoads 53 = .ok (.aload_n 0, 1) := by decide +kernel
theorem dX2_findPartingRoads_54 : decode cX2_findPartingRoads 54 = .ok (.getfield 21, 3) := by decide +kernel
theorem dX2_findPartingRoads_57 : decode cX2_findPartingRoads 57 = .ok (.iload_n 1, 1) := by decide +kernel
theorem dX2_findPartingRoads_58 : decode cX2_findPartingRoads 58 = .ok (.iaload, 1) := by decide +kernel
theorem dX2_findPartingRoads_59 : decode cX2_findPartingRoads 59 = .ok (.aload_n 0, 1) := by decide +kernel
theorem dX2_findPartingRoads_60 : decode cX2_findPartingRoads 60 = .ok (.getfield 27, 3) := by decide +kernel
theorem dX2_findPartingRoads_63 : decode cX2_findPartingRoads 63 = .ok (.getfield 77, 3) := by decide +kernel
theorem dX2_findPartingRoads_66 : decode cX2_findPartingRoads 66 = .ok (.iload_n 1, 1) := by decide +kernel
theorem dX2_findPartingRoads_67 : decode cX2_findPartingRoads 67 = .ok (.iaload, 1) := by decide +kernel
theorem dX2_findPartingRoads_68 : decode cX2_findPartingRoads 68 = .ok (.invokestatic 52, 3) := by decide +kernel
theorem dX2_findPartingRoads_71 : decode cX2_findPartingRoads 71 = .ok (.ifCond .ne 15, 3) := by decide +kernel
theorem dX2_findPartingRoads_74 : decode cX2_findPartingRoads 74 = .ok (.aload_n 0, 1) := by decide +kernel
theorem dX2_findPartingRoads_75 : decode cX2_findPartingRoads 75 = .ok (.dup, 1) := by decide +kernel
theorem dX2_findPartingRoads_76 : decode cX2_findPartingRoads 76 = .ok (.getfield 68, 3) := by decide +kernel
theorem dX2_findPartingRoads_79 : decode cX2_findPartingRoads 79 = .ok (.iconst 1, 1) := by decide +kernel
theorem dX2_findPartingRoads_80 : decode cX2_findPartingRoads 80 = .ok (.iload_n 1, 1) := by decide +kernel
theorem dX2_findPartingRoads_81 : decode cX2_findPartingRoads 81 = .ok (.ishl, 1) := by decide +kernel
theorem dX2_findPartingRoads_82 : decode cX2_findPartingRoads 82 = .ok (.ior, 1) := by decide +kernel
theorem dX2_findPartingRoads_83 : decode cX2_findPartingRoads 83 = .ok (.putfield 68, 3) := by decide +kernel
theorem dX2_findPartingRoads_86 : decode cX2_findPartingRoads 86 = .ok (.iinc 1 1, 3) := by decide +kernel
theorem dX2_findPartingRoads_89 : decode cX2_findPartingRoads 89 = .ok (.goto (-82), 3) := by decide +kernel
theorem dX2_findPartingRoads_92 : decode cX2_findPartingRoads 92 = .ok (.return_, 1) := by decide +kernel
theorem dX2_findDistricts_0 : decode cX2_findDistricts 0 = .ok (.iconst 0, 1) := by decide +kernel
theorem dX2_findDistricts_1 : decode cX2_findDistricts 1 = .ok (.istore_n 1, 1) := by decide +kernel
theorem dX2_findDistricts_2 : decode cX2_findDistricts 2 = .ok (.aload_n 0, 1) := by decide +kernel
theorem dX2_findDistricts_3 : decode cX2_findDistricts 3 = .ok (.iconst 0, 1) := by decide +kernel
theorem dX2_findDistricts_4 : decode cX2_findDistricts 4 = .ok (.putfield 80, 3) := by decide +kernel
theorem dX2_findDistricts_7 : decode cX2_findDistricts 7 = .ok (.iconst 0, 1) := by decide +kernel
theorem dX2_findDistricts_8 : decode cX2_findDistricts 8 = .ok (.istore_n 2, 1) := by decide +kernel
theorem dX2_findDistricts_9 : decode cX2_findDistricts 9 = .ok (.iload_n 2, 1) := by decide +kernel
theorem dX2_findDistricts_10 : decode cX2_findDistricts 10 = .ok (.aload_n 0, 1) := by decide +kernel
theorem dX2_findDistricts_11 : decode cX2_findDistricts 11 = .ok (.getfield 27, 3) := by decide +kernel
theorem dX2_findDistricts_14 : decode cX2_findDistricts 14 = .ok (.getfield 47, 3) := by decide +kernel
theorem dX2_findDistricts_17 : decode cX2_findDistricts 17 = .ok (.if_icmp .ge 76, 3) := by decide +kernel
theorem dX2_findDistricts_20 : decode cX2_findDistricts 20 = .ok (.iload_n 1, 1) := by decide +kernel
theorem dX2_findDistricts_21 : decode cX2_findDistricts 21 = .ok (.iload_n 2, 1) := by decide +kernel
theorem dX2_findDistricts_22 : decode cX2_findDistricts 22 = .ok (.invokestatic 52, 3) := by decide +kernel
theorem dX2_findDistricts_25 : decode cX2_findDistricts 25 = .ok (.ifCond .ne 62, 3) := by decide +kernel
theorem dX2_findDistricts_28 : decode cX2_findDistricts 28 = .ok (.aload_n 0, 1) := by decide +kernel
theorem dX2_findDistricts_29 : decode cX2_findDistricts 29 = .ok (.getfield 27, 3) := by decide +kernel
theorem dX2_findDistricts_32 : decode cX2_findDistricts 32 = .ok (.iload_n 2, 1) := by decide +kernel
theorem dX2_findDistricts_33 : decode cX2_findDistricts 33 = .ok (.aload_n 0, 1) := by decide +kernel
theorem dX2_findDistricts_34 : decode cX2_findDistricts 34 = .ok (.getfield 27, 3) := by decide +kernel
theorem dX2_findDistricts_37 : decode cX2_findDistricts 37 = .ok (.invokevirtual 56, 3) := by decide +kernel
theorem dX2_findDistricts_40 : decode cX2_findDistricts 40 = .ok (.aload_n 0, 1) := by decide +kernel
theorem dX2_findDistricts_41 : decode cX2_findDistricts 41 = .ok (.getfield 68, 3) := by decide +kernel
theorem dX2_findDistricts_44 : decode cX2_findDistricts 44 = .ok (.iconst (-1), 1) := by decide +kernel
theorem dX2_findDistricts_45 : decode cX2_findDistricts 45 = .ok (.ixor, 1) := by decide +kernel
theorem dX2_findDistricts_46 : decode cX2_findDistricts 46 = .ok (.iand, 1) := by decide +kernel
theorem dX2_findDistricts_47 : decode cX2_findDistricts 47 = .ok (.invokevirtual 60, 3) := by decide +kernel
theorem dX2_findDistricts_50 : decode cX2_findDistricts 50 = .ok (.istore_n 3, 1) := by decide +kernel
theorem dX2_findDistricts_51 : decode cX2_findDistricts 51 = .ok (.aload_n 0, 1) := by decide +kernel
theorem dX2_findDistricts_52 : decode cX2_findDistricts 52 = .ok (.getfield 15, 3) := by decide +kernel
theorem dX2_findDistricts_55 : decode cX2_findDistricts 55 = .ok (.iload_n 3, 1) := by decide +kernel
theorem dX2_findDistricts_56 : decode cX2_findDistricts 56 = .ok (.aload_n 0, 1) := by decide +kernel
theorem dX2_findDistricts_57 : decode cX2_findDistricts 57 = .ok (.getfield 80, 3) := by decide +kernel
theorem dX2_findDistricts_60 : decode cX2_findDistricts 60 = .ok (.invokestatic 64, 3) := by decide +kernel
theorem dX2_findDistricts_63 : decode cX2_findDistricts 63 = .ok (.aload_n 0, 1) := by decide +kernel
theorem dX2_findDistricts_64 : decode cX2_findDistricts 64 = .ok (.getfield 18, 3) := by decide +kernel
theorem dX2_findDistricts_67 : decode cX2_findDistricts 67 = .ok (.aload_n 0, 1) := by decide +kernel
theorem dX2_findDistricts_68 : decode cX2_findDistricts 68 = .ok (.getfield 80, 3) := by decide +kernel
theorem dX2_findDistricts_71 : decode cX2_findDistricts 71 = .ok (.iload_n 3, 1) := by decide +kernel
theorem dX2_findDistricts_72 : decode cX2_findDistricts 72 = .ok (.iastore, 1) := by decide +kernel
theorem dX2_findDistricts_73 : decode cX2_findDistricts 73 = .ok (.iload_n 1, 1) := by decide +kernel
theorem dX2_findDistricts_74 : decode cX2_findDistricts 74 = .ok (.iload_n 3, 1) := by decide +kernel
theorem dX2_findDistricts_75 : decode cX2_findDistricts 75 = .ok (.ior, 1) := by decide +kernel
theorem dX2_findDistricts_76 : decode cX2_findDistricts 76 = .ok (.istore_n 1, 1) := by decide +kernel
theorem dX2_findDistricts_77 : decode cX2_findDistricts 77 = .ok (.aload_n 0, 1) := by decide +kernel
theorem dX2_findDistricts_78 : decode cX2_findDistricts 78 = .ok (.dup, 1) := by decide +kernel
theorem dX2_findDistricts_79 : decode cX2_findDistricts 79 = .ok (.getfield 80, 3) := by decide +kernel
theorem dX2_findDistricts_82 : decode cX2_findDistricts 82 = .ok (.iconst 1, 1) := by decide +kernel
theorem dX2_findDistricts_83 : decode cX2_findDistricts 83 = .ok (.iadd, 1) := by decide +kernel
theorem dX2_findDistricts_84 : decode cX2_findDistricts 84 = .ok (.putfield 80, 3) := by decide +kernel
theorem dX2_findDistricts_87 : decode cX2_findDistricts 87 = .ok (.iinc 2 1, 3) := by decide +kernel
theorem dX2_findDistricts_90 : decode cX2_findDistricts 90 = .ok (.goto (-81), 3) := by decide +kernel
theorem dX2_findDistricts_93 : decode cX2_findDistricts 93 = .ok (.return_, 1) := by decide +kernel
theorem dX2_hangTogether_0 : decode cX2_hangTogether 0 = .ok (.aload_n 0, 1) := by decide +kernel
theorem dX2_hangTogether_1 : decode cX2_hangTogether 1 = .ok (.getfield 9, 3) := by decide +kernel
theorem dX2_hangTogether_4 : decode cX2_hangTogether 4 = .ok (.iload_n 1, 1) := by decide +kernel
theorem dX2_hangTogether_5 : decode cX2_hangTogether 5 = .ok (.iaload, 1) := by decide +kernel
theorem dX2_hangTogether_6 : decode cX2_hangTogether 6 = .ok (.iload_n 2, 1) := by decide +kernel
theorem dX2_hangTogether_7 : decode cX2_hangTogether 7 = .ok (.invokestatic 52, 3) := by decide +kernel
theorem dX2_hangTogether_10 : decode cX2_hangTogether 10 = .ok (.ireturn, 1) := by decide +kernel
theorem dX2_squaresBehind_0 : decode cX2_squaresBehind 0 = .ok (.aload_n 0, 1) := by decide +kernel
theorem dX2_squaresBehind_1 : decode cX2_squaresBehind 1 = .ok (.getfield 21, 3) := by decide +kernel
theorem dX2_squaresBehind_4 : decode cX2_squaresBehind 4 = .ok (.iload_n 2, 1) := by decide +kernel
theorem dX2_squaresBehind_5 : decode cX2_squaresBehind 5 = .ok (.iaload, 1) := by decide +kernel
theorem dX2_squaresBehind_6 : decode cX2_squaresBehind 6 = .ok (.istore_n 3, 1) := by decide +kernel
theorem dX2_squaresBehind_7 : decode cX2_squaresBehind 7 = .ok (.aload_n 0, 1) := by decide +kernel
theorem dX2_squaresBehind_8 : decode cX2_squaresBehind 8 = .ok (.getfield 9, 3) := by decide +kernel
theorem dX2_squaresBehind_11 : decode cX2_squaresBehind 11 = .ok (.iload_n 1, 1) := by decide +kernel
theorem dX2_squaresBehind_12 : decode cX2_squaresBehind 12 = .ok (.iaload, 1) := by decide +kernel
theorem dX2_squaresBehind_13 : decode cX2_squaresBehind 13 = .ok (.iload_n 3, 1) := by decide +kernel
theorem dX2_squaresBehind_14 : decode cX2_squaresBehind 14 = .ok (.iload_n 1, 1) := by decide +kernel
theorem dX2_squaresBehind_15 : decode cX2_squaresBehind 15 = .ok (.invokestatic 52, 3) := by decide +kernel
theorem dX2_squaresBehind_18 : decode cX2_squaresBehind 18 = .ok (.ifCond .eq 9, 3) := by decide +kernel
theorem dX2_squaresBehind_21 : decode cX2_squaresBehind 21 = .ok (.iload_n 3, 1) := by decide +kernel
theorem dX2_squaresBehind_22 : decode cX2_squaresBehind 22 = .ok (.iconst (-1), 1) := by decide +kernel
theorem dX2_squaresBehind_23 : decode cX2_squaresBehind 23 = .ok (.ixor, 1) := by decide +kernel
theorem dX2_squaresBehind_24 : decode cX2_squaresBehind 24 = .ok (.goto 4, 3) := by decide +kernel
theorem dX2_squaresBehind_27 : decode cX2_squaresBehind 27 = .ok (.iload_n 3, 1) := by decide +kernel
theorem dX2_squaresBehind_28 : decode cX2_squaresBehind 28 = .ok (.iand, 1) := by decide +kernel
theorem dX2_squaresBehind_29 : decode cX2_squaresBehind 29 = .ok (.ireturn, 1) := by decide +kernel
theorem dX2_pairsParted_0 : decode cX2_pairsParted 0 = .ok (.aload_n 0, 1) := by decide +kernel
theorem dX2_pairsParted_1 : decode cX2_pairsParted 1 = .ok (.getfield 27, 3) := by decide +kernel
theorem dX2_pairsParted_4 : decode cX2_pairsParted 4 = .ok (.getfield 74, 3) := by decide +kernel
theorem dX2_pairsParted_7 : decode cX2_pairsParted 7 = .ok (.iload_n 1, 1) := by decide +kernel
theorem dX2_pairsParted_8 : decode cX2_pairsParted 8 = .ok (.iaload, 1) := by decide +kernel
theorem dX2_pairsParted_9 : decode cX2_pairsParted 9 = .ok (.istore_n 2, 1) := by decide +kernel
theorem dX2_pairsParted_10 : decode cX2_pairsParted 10 = .ok (.aload_n 0, 1) := by decide +kernel
theorem dX2_pairsParted_11 : decode cX2_pairsParted 11 = .ok (.iload_n 2, 1) := by decide +kernel
theorem dX2_pairsParted_12 : decode cX2_pairsParted 12 = .ok (.iload_n 1, 1) := by decide +kernel
theorem dX2_pairsParted_13 : decode cX2_pairsParted 13 = .ok (.invokevirtual 83, 3) := by decide +kernel
theorem dX2_pairsParted_16 : decode cX2_pairsParted 16 = .ok (.invokestatic 86, 3) := by decide +kernel
theorem dX2_pairsParted_19 : decode cX2_pairsParted 19 = .ok (.istore_n 3, 1) := by decide +kernel
theorem dX2_pairsParted_20 : decode cX2_pairsParted 20 = .ok (.iload_n 3, 1) := by decide +kernel
theorem dX2_pairsParted_21 : decode cX2_pairsParted 21 = .ok (.aload_n 0, 1) := by decide +kernel
theorem dX2_pairsParted_22 : decode cX2_pairsParted 22 = .ok (.getfield 9, 3) := by decide +kernel
theorem dX2_pairsParted_25 : decode cX2_pairsParted 25 = .ok (.iload_n 2, 1) := by decide +kernel
theorem dX2_pairsParted_26 : decode cX2_pairsParted 26 = .ok (.iaload, 1) := by decide +kernel
theorem dX2_pairsParted_27 : decode cX2_pairsParted 27 = .ok (.invokestatic 86, 3) := by decide +kernel
theorem dX2_pairsParted_30 : decode cX2_pairsParted 30 = .ok (.iload_n 3, 1) := by decide +kernel
theorem dX2_pairsParted_31 : decode cX2_pairsParted 31 = .ok (.isub, 1) := by decide +kernel
theorem dX2_pairsParted_32 : decode cX2_pairsParted 32 = .ok (.imul, 1) := by decide +kernel
theorem dX2_pairsParted_33 : decode cX2_pairsParted 33 = .ok (.ireturn, 1) := by decide +kernel
theorem dX2_roadsBetween_0 : decode cX2_roadsBetween 0 = .ok (.iconst 0, 1) := by decide +kernel
theorem dX2_roadsBetween_1 : decode cX2_roadsBetween 1 = .ok (.istore_n 3, 1) := by decide +kernel
theorem dX2_roadsBetween_2 : decode cX2_roadsBetween 2 = .ok (.iconst 0, 1) := by decide +kernel
theorem dX2_roadsBetween_3 : decode cX2_roadsBetween 3 = .ok (.istore 4, 2) := by decide +kernel
theorem dX2_roadsBetween_5 : decode cX2_roadsBetween 5 = .ok (.iload 4, 2) := by decide +kernel
theorem dX2_roadsBetween_7 : decode cX2_roadsBetween 7 = .ok (.aload_n 0, 1) := by decide +kernel
theorem dX2_roadsBetween_8 : decode cX2_roadsBetween 8 = .ok (.getfield 27, 3) := by decide +kernel
theorem dX2_roadsBetween_11 : decode cX2_roadsBetween 11 = .ok (.getfield 71, 3) := by decide +kernel
theorem dX2_roadsBetween_14 : decode cX2_roadsBetween 14 = .ok (.if_icmp .ge 30, 3) := by decide +kernel
theorem dX2_roadsBetween_17 : decode cX2_roadsBetween 17 = .ok (.aload_n 0, 1) := by decide +kernel
theorem dX2_roadsBetween_18 : decode cX2_roadsBetween 18 = .ok (.iload_n 1, 1) := by decide +kernel
theorem dX2_roadsBetween_19 : decode cX2_roadsBetween 19 = .ok (.iload 4, 2) := by decide +kernel
theorem dX2_roadsBetween_21 : decode cX2_roadsBetween 21 = .ok (.invokevirtual 83, 3) := by decide +kernel
theorem dX2_roadsBetween_24 : decode cX2_roadsBetween 24 = .ok (.iload_n 2, 1) := by decide +kernel
theorem dX2_roadsBetween_25 : decode cX2_roadsBetween 25 = .ok (.invokestatic 52, 3) := by decide +kernel
theorem dX2_roadsBetween_28 : decode cX2_roadsBetween 28 = .ok (.ifCond .eq 10, 3) := by decide +kernel
theorem dX2_roadsBetween_31 : decode cX2_roadsBetween 31 = .ok (.iload_n 3, 1) := by decide +kernel
theorem dX2_roadsBetween_32 : decode cX2_roadsBetween 32 = .ok (.iconst 1, 1) := by decide +kernel
theorem dX2_roadsBetween_33 : decode cX2_roadsBetween 33 = .ok (.iload 4, 2) := by decide +kernel
theorem dX2_roadsBetween_35 : decode cX2_roadsBetween 35 = .ok (.ishl, 1) := by decide +kernel
theorem dX2_roadsBetween_36 : decode cX2_roadsBetween 36 = .ok (.ior, 1) := by decide +kernel
theorem dX2_roadsBetween_37 : decode cX2_roadsBetween 37 = .ok (.istore_n 3, 1) := by decide +kernel
theorem dX2_roadsBetween_38 : decode cX2_roadsBetween 38 = .ok (.iinc 4 1, 3) := by decide +kernel
theorem dX2_roadsBetween_41 : decode cX2_roadsBetween 41 = .ok (.goto (-36), 3) := by decide +kernel
theorem dX2_roadsBetween_44 : decode cX2_roadsBetween 44 = .ok (.iload_n 3, 1) := by decide +kernel
theorem dX2_roadsBetween_45 : decode cX2_roadsBetween 45 = .ok (.ireturn, 1) := by decide +kernel
theorem dX2_roadOnWay_0 : decode cX2_roadOnWay 0 = .ok (.aload_n 0, 1) := by decide +kernel
theorem dX2_roadOnWay_1 : decode cX2_roadOnWay 1 = .ok (.iload_n 1, 1) := by decide +kernel
theorem dX2_roadOnWay_2 : decode cX2_roadOnWay 2 = .ok (.iload_n 2, 1) := by decide +kernel
theorem dX2_roadOnWay_3 : decode cX2_roadOnWay 3 = .ok (.invokevirtual 92, 3) := by decide +kernel
theorem dX2_roadOnWay_6 : decode cX2_roadOnWay 6 = .ok (.istore 4, 2) := by decide +kernel
theorem dX2_roadOnWay_8 : decode cX2_roadOnWay 8 = .ok (.iconst 0, 1) := by decide +kernel
theorem dX2_roadOnWay_9 : decode cX2_roadOnWay 9 = .ok (.istore 5, 2) := by decide +kernel
theorem dX2_roadOnWay_11 : decode cX2_roadOnWay 11 = .ok (.iload 5, 2) := by decide +kernel
theorem dX2_roadOnWay_13 : decode cX2_roadOnWay 13 = .ok (.aload_n 0, 1) := by decide +kernel
theorem dX2_roadOnWay_14 : decode cX2_roadOnWay 14 = .ok (.getfield 27, 3) := by decide +kernel
theorem dX2_roadOnWay_17 : decode cX2_roadOnWay 17 = .ok (.getfield 71, 3) := by decide +kernel
theorem dX2_roadOnWay_20 : decode cX2_roadOnWay 20 = .ok (.if_icmp .ge 35, 3) := by decide +kernel
theorem dX2_roadOnWay_23 : decode cX2_roadOnWay 23 = .ok (.iload 4, 2) := by decide +kernel
theorem dX2_roadOnWay_25 : decode cX2_roadOnWay 25 = .ok (.iload 5, 2) := by decide +kernel
theorem dX2_roadOnWay_27 : decode cX2_roadOnWay 27 = .ok (.invokestatic 52, 3) := by decide +kernel
theorem dX2_roadOnWay_30 : decode cX2_roadOnWay 30 = .ok (.ifCond .eq 19, 3) := by decide +kernel
theorem dX2_roadOnWay_33 : decode cX2_roadOnWay 33 = .ok (.aload_n 0, 1) := by decide +kernel
theorem dX2_roadOnWay_34 : decode cX2_roadOnWay 34 = .ok (.iload_n 1, 1) := by decide +kernel
theorem dX2_roadOnWay_35 : decode cX2_roadOnWay 35 = .ok (.iload 5, 2) := by decide +kernel
theorem dX2_roadOnWay_37 : decode cX2_roadOnWay 37 = .ok (.iload 4, 2) := by decide +kernel
theorem dX2_roadOnWay_39 : decode cX2_roadOnWay 39 = .ok (.invokevirtual 95, 3) := by decide +kernel
theorem dX2_roadOnWay_42 : decode cX2_roadOnWay 42 = .ok (.iload_n 3, 1) := by decide +kernel
theorem dX2_roadOnWay_43 : decode cX2_roadOnWay 43 = .ok (.if_icmp .ne 6, 3) := by decide +kernel
theorem dX2_roadOnWay_46 : decode cX2_roadOnWay 46 = .ok (.iload 5, 2) := by decide +kernel
theorem dX2_roadOnWay_48 : decode cX2_roadOnWay 48 = .ok (.ireturn, 1) := by decide +kernel
theorem dX2_roadOnWay_49 : decode cX2_roadOnWay 49 = .ok (.iinc 5 1, 3) := by decide +kernel
theorem dX2_roadOnWay_52 : decode cX2_roadOnWay 52 = .ok (.goto (-41), 3) := by decide +kernel
theorem dX2_roadOnWay_55 : decode cX2_roadOnWay 55 = .ok (.bipush (-6), 2) := by decide +kernel
theorem dX2_roadOnWay_57 : decode cX2_roadOnWay 57 = .ok (.ireturn, 1) := by decide +kernel
theorem dX2_roadsAhead_0 : decode cX2_roadsAhead 0 = .ok (.aload_n 0, 1) := by decide +kernel
theorem dX2_roadsAhead_1 : decode cX2_roadsAhead 1 = .ok (.iload_n 1, 1) := by decide +kernel
theorem dX2_roadsAhead_2 : decode cX2_roadsAhead 2 = .ok (.iload_n 2, 1) := by decide +kernel
theorem dX2_roadsAhead_3 : decode cX2_roadsAhead 3 = .ok (.invokevirtual 83, 3) := by decide +kernel
theorem dX2_roadsAhead_6 : decode cX2_roadsAhead 6 = .ok (.invokestatic 86, 3) := by decide +kernel
theorem dX2_roadsAhead_9 : decode cX2_roadsAhead 9 = .ok (.istore 4, 2) := by decide +kernel
theorem dX2_roadsAhead_11 : decode cX2_roadsAhead 11 = .ok (.iconst 0, 1) := by decide +kernel
theorem dX2_roadsAhead_12 : decode cX2_roadsAhead 12 = .ok (.istore 5, 2) := by decide +kernel
theorem dX2_roadsAhead_14 : decode cX2_roadsAhead 14 = .ok (.iconst 0, 1) := by decide +kernel
theorem dX2_roadsAhead_15 : decode cX2_roadsAhead 15 = .ok (.istore 6, 2) := by decide +kernel
theorem dX2_roadsAhead_17 : decode cX2_roadsAhead 17 = .ok (.iload 6, 2) := by decide +kernel
theorem dX2_roadsAhead_19 : decode cX2_roadsAhead 19 = .ok (.aload_n 0, 1) := by decide +kernel
theorem dX2_roadsAhead_20 : decode cX2_roadsAhead 20 = .ok (.getfield 27, 3) := by decide +kernel
theorem dX2_roadsAhead_23 : decode cX2_roadsAhead 23 = .ok (.getfield 71, 3) := by decide +kernel
theorem dX2_roadsAhead_26 : decode cX2_roadsAhead 26 = .ok (.if_icmp .ge 36, 3) := by decide +kernel
theorem dX2_roadsAhead_29 : decode cX2_roadsAhead 29 = .ok (.iload_n 3, 1) := by decide +kernel
theorem dX2_roadsAhead_30 : decode cX2_roadsAhead 30 = .ok (.iload 6, 2) := by decide +kernel
theorem dX2_roadsAhead_32 : decode cX2_roadsAhead 32 = .ok (.invokestatic 52, 3) := by decide +kernel
theorem dX2_roadsAhead_35 : decode cX2_roadsAhead 35 = .ok (.ifCond .eq 21, 3) := by decide +kernel
theorem dX2_roadsAhead_38 : decode cX2_roadsAhead 38 = .ok (.aload_n 0, 1) := by decide +kernel
theorem dX2_roadsAhead_39 : decode cX2_roadsAhead 39 = .ok (.iload_n 1, 1) := by decide +kernel
theorem dX2_roadsAhead_40 : decode cX2_roadsAhead 40 = .ok (.iload 6, 2) := by decide +kernel
theorem dX2_roadsAhead_42 : decode cX2_roadsAhead 42 = .ok (.invokevirtual 83, 3) := by decide +kernel
theorem dX2_roadsAhead_45 : decode cX2_roadsAhead 45 = .ok (.invokestatic 86, 3) := by decide +kernel
theorem dX2_roadsAhead_48 : decode cX2_roadsAhead 48 = .ok (.iload 4, 2) := by decide +kernel
theorem dX2_roadsAhead_50 : decode cX2_roadsAhead 50 = .ok (.if_icmp .le 6, 3) := by decide +kernel
theorem dX2_roadsAhead_53 : decode cX2_roadsAhead 53 = .ok (.iinc 5 1, 3) := by decide +kernel
theorem dX2_roadsAhead_56 : decode cX2_roadsAhead 56 = .ok (.iinc 6 1, 3) := by decide +kernel
theorem dX2_roadsAhead_59 : decode cX2_roadsAhead 59 = .ok (.goto (-42), 3) := by decide +kernel
theorem dX2_roadsAhead_62 : decode cX2_roadsAhead 62 = .ok (.iload 5, 2) := by decide +kernel
theorem dX2_roadsAhead_64 : decode cX2_roadsAhead 64 = .ok (.ireturn, 1) := by decide +kernel
theorem dX2_partingRoadsAfter_0 : decode cX2_partingRoadsAfter 0 = .ok (.aload_n 0, 1) := by decide +kernel
theorem dX2_partingRoadsAfter_1 : decode cX2_partingRoadsAfter 1 = .ok (.getfield 68, 3) := by decide +kernel
theorem dX2_partingRoadsAfter_4 : decode cX2_partingRoadsAfter 4 = .ok (.invokestatic 86, 3) := by decide +kernel
theorem dX2_partingRoadsAfter_7 : decode cX2_partingRoadsAfter 7 = .ok (.istore_n 3, 1) := by decide +kernel
theorem dX2_partingRoadsAfter_8 : decode cX2_partingRoadsAfter 8 = .ok (.aload_n 0, 1) := by decide +kernel
theorem dX2_partingRoadsAfter_9 : decode cX2_partingRoadsAfter 9 = .ok (.iload_n 1, 1) := by decide +kernel
theorem dX2_partingRoadsAfter_10 : decode cX2_partingRoadsAfter 10 = .ok (.iload_n 2, 1) := by decide +kernel
theorem dX2_partingRoadsAfter_11 : decode cX2_partingRoadsAfter 11 = .ok (.invokevirtual 99, 3) := by decide +kernel
theorem dX2_partingRoadsAfter_14 : decode cX2_partingRoadsAfter 14 = .ok (.ifCond .eq 17, 3) := by decide +kernel
theorem dX2_partingRoadsAfter_17 : decode cX2_partingRoadsAfter 17 = .ok (.iload_n 3, 1) := by decide +kernel
theorem dX2_partingRoadsAfter_18 : decode cX2_partingRoadsAfter 18 = .ok (.aload_n 0, 1) := by decide +kernel
theorem dX2_partingRoadsAfter_19 : decode cX2_partingRoadsAfter 19 = .ok (.iload_n 1, 1) := by decide +kernel
theorem dX2_partingRoadsAfter_20 : decode cX2_partingRoadsAfter 20 = .ok (.iload_n 2, 1) := by decide +kernel
theorem dX2_partingRoadsAfter_21 : decode cX2_partingRoadsAfter 21 = .ok (.invokevirtual 92, 3) := by decide +kernel
theorem dX2_partingRoadsAfter_24 : decode cX2_partingRoadsAfter 24 = .ok (.invokestatic 86, 3) := by decide +kernel
theorem dX2_partingRoadsAfter_27 : decode cX2_partingRoadsAfter 27 = .ok (.isub, 1) := by decide +kernel
theorem dX2_partingRoadsAfter_28 : decode cX2_partingRoadsAfter 28 = .ok (.goto 6, 3) := by decide +kernel
theorem dX2_partingRoadsAfter_31 : decode cX2_partingRoadsAfter 31 = .ok (.iload_n 3, 1) := by decide +kernel
theorem dX2_partingRoadsAfter_32 : decode cX2_partingRoadsAfter 32 = .ok (.iconst 1, 1) := by decide +kernel
theorem dX2_partingRoadsAfter_33 : decode cX2_partingRoadsAfter 33 = .ok (.iadd, 1) := by decide +kernel
theorem dX2_partingRoadsAfter_34 : decode cX2_partingRoadsAfter 34 = .ok (.ireturn, 1) := by decide +kernel
theorem dX2_morePiecesWithout_0 : decode cX2_morePiecesWithout 0 = .ok (.aload_n 0, 1) := by decide +kernel
theorem dX2_morePiecesWithout_1 : decode cX2_morePiecesWithout 1 = .ok (.getfield 9, 3) := by decide +kernel
theorem dX2_morePiecesWithout_4 : decode cX2_morePiecesWithout 4 = .ok (.iload_n 1, 1) := by decide +kernel
theorem dX2_morePiecesWithout_5 : decode cX2_morePiecesWithout 5 = .ok (.iaload, 1) := by decide +kernel
theorem dX2_morePiecesWithout_6 : decode cX2_morePiecesWithout 6 = .ok (.iconst 1, 1) := by decide +kernel
theorem dX2_morePiecesWithout_7 : decode cX2_morePiecesWithout 7 = .ok (.iload_n 1, 1) := by decide +kernel
theorem dX2_morePiecesWithout_8 : decode cX2_morePiecesWithout 8 = .ok (.ishl, 1) := by decide +kernel
theorem dX2_morePiecesWithout_9 : decode cX2_morePiecesWithout 9 = .ok (.iconst (-1), 1) := by decide +kernel
theorem dX2_morePiecesWithout_10 : decode cX2_morePiecesWithout 10 = .ok (.ixor, 1) := by decide +kernel
theorem dX2_morePiecesWithout_11 : decode cX2_morePiecesWithout 11 = .ok (.iand, 1) := by decide +kernel
theorem dX2_morePiecesWithout_12 : decode cX2_morePiecesWithout 12 = .ok (.istore_n 2, 1) := by decide +kernel
theorem dX2_morePiecesWithout_13 : decode cX2_morePiecesWithout 13 = .ok (.aload_n 0, 1) := by decide +kernel
theorem dX2_morePiecesWithout_14 : decode cX2_morePiecesWithout 14 = .ok (.getfield 27, 3) := by decide +kernel
theorem dX2_morePiecesWithout_17 : decode cX2_morePiecesWithout 17 = .ok (.invokevirtual 56, 3) := by decide +kernel
theorem dX2_morePiecesWithout_20 : decode cX2_morePiecesWithout 20 = .ok (.aload_n 0, 1) := by decide +kernel
theorem dX2_morePiecesWithout_21 : decode cX2_morePiecesWithout 21 = .ok (.getfield 27, 3) := by decide +kernel
theorem dX2_morePiecesWithout_24 : decode cX2_morePiecesWithout 24 = .ok (.iload_n 1, 1) := by decide +kernel
theorem dX2_morePiecesWithout_25 : decode cX2_morePiecesWithout 25 = .ok (.invokevirtual 102, 3) := by decide +kernel
theorem dX2_morePiecesWithout_28 : decode cX2_morePiecesWithout 28 = .ok (.iconst (-1), 1) := by decide +kernel
theorem dX2_morePiecesWithout_29 : decode cX2_morePiecesWithout 29 = .ok (.ixor, 1) := by decide +kernel
theorem dX2_morePiecesWithout_30 : decode cX2_morePiecesWithout 30 = .ok (.iand, 1) := by decide +kernel
theorem dX2_morePiecesWithout_31 : decode cX2_morePiecesWithout 31 = .ok (.istore_n 3, 1) := by decide +kernel
theorem dX2_morePiecesWithout_32 : decode cX2_morePiecesWithout 32 = .ok (.iconst 0, 1) := by decide +kernel
theorem dX2_morePiecesWithout_33 : decode cX2_morePiecesWithout 33 = .ok (.istore 4, 2) := by decide +kernel
theorem dX2_morePiecesWithout_35 : decode cX2_morePiecesWithout 35 = .ok (.iconst 0, 1) := by decide +kernel
theorem dX2_morePiecesWithout_36 : decode cX2_morePiecesWithout 36 = .ok (.istore 5, 2) := by decide +kernel
theorem dX2_morePiecesWithout_38 : decode cX2_morePiecesWithout 38 = .ok (.iload 5, 2) := by decide +kernel
theorem dX2_morePiecesWithout_40 : decode cX2_morePiecesWithout 40 = .ok (.aload_n 0, 1) := by decide +kernel
theorem dX2_morePiecesWithout_41 : decode cX2_morePiecesWithout 41 = .ok (.getfield 27, 3) := by decide +kernel
theorem dX2_morePiecesWithout_44 : decode cX2_morePiecesWithout 44 = .ok (.getfield 47, 3) := by decide +kernel
theorem dX2_morePiecesWithout_47 : decode cX2_morePiecesWithout 47 = .ok (.if_icmp .ge 36, 3) := by decide +kernel
theorem dX2_morePiecesWithout_50 : decode cX2_morePiecesWithout 50 = .ok (.iload_n 2, 1) := by decide +kernel
theorem dX2_morePiecesWithout_51 : decode cX2_morePiecesWithout 51 = .ok (.iload 5, 2) := by decide +kernel
theorem dX2_morePiecesWithout_53 : decode cX2_morePiecesWithout 53 = .ok (.invokestatic 52, 3) := by decide +kernel
theorem dX2_morePiecesWithout_56 : decode cX2_morePiecesWithout 56 = .ok (.ifCond .eq 21, 3) := by decide +kernel
theorem dX2_morePiecesWithout_59 : decode cX2_morePiecesWithout 59 = .ok (.iload_n 2, 1) := by decide +kernel
theorem dX2_morePiecesWithout_60 : decode cX2_morePiecesWithout 60 = .ok (.aload_n 0, 1) := by decide +kernel
theorem dX2_morePiecesWithout_61 : decode cX2_morePiecesWithout 61 = .ok (.getfield 27, 3) := by decide +kernel
theorem dX2_morePiecesWithout_64 : decode cX2_morePiecesWithout 64 = .ok (.iload 5, 2) := by decide +kernel
theorem dX2_morePiecesWithout_66 : decode cX2_morePiecesWithout 66 = .ok (.iload_n 3, 1) := by decide +kernel
theorem dX2_morePiecesWithout_67 : decode cX2_morePiecesWithout 67 = .ok (.invokevirtual 60, 3) := by decide +kernel
theorem dX2_morePiecesWithout_70 : decode cX2_morePiecesWithout 70 = .ok (.iconst (-1), 1) := by decide +kernel
theorem dX2_morePiecesWithout_71 : decode cX2_morePiecesWithout 71 = .ok (.ixor, 1) := by decide +kernel
theorem dX2_morePiecesWithout_72 : decode cX2_morePiecesWithout 72 = .ok (.iand, 1) := by decide +kernel
theorem dX2_morePiecesWithout_73 : decode cX2_morePiecesWithout 73 = .ok (.istore_n 2, 1) := by decide +kernel
theorem dX2_morePiecesWithout_74 : decode cX2_morePiecesWithout 74 = .ok (.iinc 4 1, 3) := by decide +kernel
theorem dX2_morePiecesWithout_77 : decode cX2_morePiecesWithout 77 = .ok (.iinc 5 1, 3) := by decide +kernel
theorem dX2_morePiecesWithout_80 : decode cX2_morePiecesWithout 80 = .ok (.goto (-42), 3) := by decide +kernel
theorem dX2_morePiecesWithout_83 : decode cX2_morePiecesWithout 83 = .ok (.iload 4, 2) := by decide +kernel
theorem dX2_morePiecesWithout_85 : decode cX2_morePiecesWithout 85 = .ok (.iconst 1, 1) := by decide +kernel
theorem dX2_morePiecesWithout_86 : decode cX2_morePiecesWithout 86 = .ok (.isub, 1) := by decide +kernel
theorem dX2_morePiecesWithout_87 : decode cX2_morePiecesWithout 87 = .ok (.iconst 0, 1) := by decide +kernel
theorem dX2_morePiecesWithout_88 : decode cX2_morePiecesWithout 88 = .ok (.invokestatic 105, 3) := by decide +kernel
theorem dX2_morePiecesWithout_91 : decode cX2_morePiecesWithout 91 = .ok (.ireturn, 1) := by decide +kernel
theorem dX2_partingSquares_0 : decode cX2_partingSquares 0 = .ok (.iconst 0, 1) := by decide +kernel
theorem dX2_partingSquares_1 : decode cX2_partingSquares 1 = .ok (.istore_n 1, 1) := by decide +kernel
theorem dX2_partingSquares_2 : decode cX2_partingSquares 2 = .ok (.iconst 0, 1) := by decide +kernel
theorem dX2_partingSquares_3 : decode cX2_partingSquares 3 = .ok (.istore_n 2, 1) := by decide +kernel
theorem dX2_partingSquares_4 : decode cX2_partingSquares 4 = .ok (.iload_n 2, 1) := by decide +kernel
theorem dX2_partingSquares_5 : decode cX2_partingSquares 5 = .ok (.aload_n 0, 1) := by decide +kernel
theorem dX2_partingSquares_6 : decode cX2_partingSquares 6 = .ok (.getfield 27, 3) := by decide +kernel
theorem dX2_partingSquares_9 : decode cX2_partingSquares 9 = .ok (.getfield 47, 3) := by decide +kernel
theorem dX2_partingSquares_12 : decode cX2_partingSquares 12 = .ok (.if_icmp .ge 20, 3) := by decide +kernel
theorem dX2_partingSquares_15 : decode cX2_partingSquares 15 = .ok (.aload_n 0, 1) := by decide +kernel
theorem dX2_partingSquares_16 : decode cX2_partingSquares 16 = .ok (.iload_n 2, 1) := by decide +kernel
theorem dX2_partingSquares_17 : decode cX2_partingSquares 17 = .ok (.invokevirtual 110, 3) := by decide +kernel
theorem dX2_partingSquares_20 : decode cX2_partingSquares 20 = .ok (.ifCond .le 6, 3) := by decide +kernel
theorem dX2_partingSquares_23 : decode cX2_partingSquares 23 = .ok (.iinc 1 1, 3) := by decide +kernel
theorem dX2_partingSquares_26 : decode cX2_partingSquares 26 = .ok (.iinc 2 1, 3) := by decide +kernel
theorem dX2_partingSquares_29 : decode cX2_partingSquares 29 = .ok (.goto (-25), 3) := by decide +kernel
theorem dX2_partingSquares_32 : decode cX2_partingSquares 32 = .ok (.iload_n 1, 1) := by decide +kernel
theorem dX2_partingSquares_33 : decode cX2_partingSquares 33 = .ok (.ireturn, 1) := by decide +kernel
theorem dX2_partingRoadsOut_0 : decode cX2_partingRoadsOut 0 = .ok (.iconst 0, 1) := by decide +kernel
theorem dX2_partingRoadsOut_1 : decode cX2_partingRoadsOut 1 = .ok (.istore_n 2, 1) := by decide +kernel
theorem dX2_partingRoadsOut_2 : decode cX2_partingRoadsOut 2 = .ok (.iconst 0, 1) := by decide +kernel
theorem dX2_partingRoadsOut_3 : decode cX2_partingRoadsOut 3 = .ok (.istore_n 3, 1) := by decide +kernel
theorem dX2_partingRoadsOut_4 : decode cX2_partingRoadsOut 4 = .ok (.iload_n 3, 1) := by decide +kernel
theorem dX2_partingRoadsOut_5 : decode cX2_partingRoadsOut 5 = .ok (.aload_n 0, 1) := by decide +kernel
theorem dX2_partingRoadsOut_6 : decode cX2_partingRoadsOut 6 = .ok (.getfield 27, 3) := by decide +kernel
theorem dX2_partingRoadsOut_9 : decode cX2_partingRoadsOut 9 = .ok (.getfield 71, 3) := by decide +kernel
theorem dX2_partingRoadsOut_12 : decode cX2_partingRoadsOut 12 = .ok (.if_icmp .ge 37, 3) := by decide +kernel
theorem dX2_partingRoadsOut_15 : decode cX2_partingRoadsOut 15 = .ok (.aload_n 0, 1) := by decide +kernel
theorem dX2_partingRoadsOut_16 : decode cX2_partingRoadsOut 16 = .ok (.getfield 68, 3) := by decide +kernel
theorem dX2_partingRoadsOut_19 : decode cX2_partingRoadsOut 19 = .ok (.iload_n 3, 1) := by decide +kernel
theorem dX2_partingRoadsOut_20 : decode cX2_partingRoadsOut 20 = .ok (.invokestatic 52, 3) := by decide +kernel
theorem dX2_partingRoadsOut_23 : decode cX2_partingRoadsOut 23 = .ok (.ifCond .eq 20, 3) := by decide +kernel
theorem dX2_partingRoadsOut_26 : decode cX2_partingRoadsOut 26 = .ok (.aload_n 0, 1) := by decide +kernel
theorem dX2_partingRoadsOut_27 : decode cX2_partingRoadsOut 27 = .ok (.getfield 27, 3) := by decide +kernel
theorem dX2_partingRoadsOut_30 : decode cX2_partingRoadsOut 30 = .ok (.getfield 113, 3) := by decide +kernel
theorem dX2_partingRoadsOut_33 : decode cX2_partingRoadsOut 33 = .ok (.iload_n 3, 1) := by decide +kernel
theorem dX2_partingRoadsOut_34 : decode cX2_partingRoadsOut 34 = .ok (.iaload, 1) := by decide +kernel
theorem dX2_partingRoadsOut_35 : decode cX2_partingRoadsOut 35 = .ok (.iload_n 1, 1) := by decide +kernel
theorem dX2_partingRoadsOut_36 : decode cX2_partingRoadsOut 36 = .ok (.iand, 1) := by decide +kernel
theorem dX2_partingRoadsOut_37 : decode cX2_partingRoadsOut 37 = .ok (.ifCond .eq 6, 3) := by decide +kernel
theorem dX2_partingRoadsOut_40 : decode cX2_partingRoadsOut 40 = .ok (.iinc 2 1, 3) := by decide +kernel
theorem dX2_partingRoadsOut_43 : decode cX2_partingRoadsOut 43 = .ok (.iinc 3 1, 3) := by decide +kernel
theorem dX2_partingRoadsOut_46 : decode cX2_partingRoadsOut 46 = .ok (.goto (-42), 3) := by decide +kernel
theorem dX2_partingRoadsOut_49 : decode cX2_partingRoadsOut 49 = .ok (.iload_n 2, 1) := by decide +kernel
theorem dX2_partingRoadsOut_50 : decode cX2_partingRoadsOut 50 = .ok (.ireturn, 1) := by decide +kernel
theorem dX2_longestDistrict_0 : decode cX2_longestDistrict 0 = .ok (.iconst 0, 1) := by decide +kernel
theorem dX2_longestDistrict_1 : decode cX2_longestDistrict 1 = .ok (.istore_n 1, 1) := by decide +kernel
theorem dX2_longestDistrict_2 : decode cX2_longestDistrict 2 = .ok (.aload_n 0, 1) := by decide +kernel
theorem dX2_longestDistrict_3 : decode cX2_longestDistrict 3 = .ok (.getfield 27, 3) := by decide +kernel
theorem dX2_longestDistrict_6 : decode cX2_longestDistrict 6 = .ok (.aload_n 0, 1) := by decide +kernel
theorem dX2_longestDistrict_7 : decode cX2_longestDistrict 7 = .ok (.getfield 27, 3) := by decide +kernel
theorem dX2_longestDistrict_10 : decode cX2_longestDistrict 10 = .ok (.aload_n 0, 1) := by decide +kernel
theorem dX2_longestDistrict_11 : decode cX2_longestDistrict 11 = .ok (.getfield 18, 3) := by decide +kernel
theorem dX2_longestDistrict_14 : decode cX2_longestDistrict 14 = .ok (.iload_n 1, 1) := by decide +kernel
theorem dX2_longestDistrict_15 : decode cX2_longestDistrict 15 = .ok (.iaload, 1) := by decide +kernel
theorem dX2_longestDistrict_16 : decode cX2_longestDistrict 16 = .ok (.invokevirtual 116, 3) := by decide +kernel
theorem dX2_longestDistrict_19 : decode cX2_longestDistrict 19 = .ok (.invokevirtual 119, 3) := by decide +kernel
theorem dX2_longestDistrict_22 : decode cX2_longestDistrict 22 = .ok (.istore_n 2, 1) := by decide +kernel
theorem dX2_longestDistrict_23 : decode cX2_longestDistrict 23 = .ok (.iconst 1, 1) := by decide +kernel
theorem dX2_longestDistrict_24 : decode cX2_longestDistrict 24 = .ok (.istore_n 3, 1) := by decide +kernel
theorem dX2_longestDistrict_25 : decode cX2_longestDistrict 25 = .ok (.iload_n 3, 1) := by decide +kernel
theorem dX2_longestDistrict_26 : decode cX2_longestDistrict 26 = .ok (.aload_n 0, 1) := by decide +kernel
theorem dX2_longestDistrict_27 : decode cX2_longestDistrict 27 = .ok (.getfield 80, 3) := by decide +kernel
theorem dX2_longestDistrict_30 : decode cX2_longestDistrict 30 = .ok (.if_icmp .ge 42, 3) := by decide +kernel
theorem dX2_longestDistrict_33 : decode cX2_longestDistrict 33 = .ok (.aload_n 0, 1) := by decide +kernel
theorem dX2_longestDistrict_34 : decode cX2_longestDistrict 34 = .ok (.getfield 27, 3) := by decide +kernel
theorem dX2_longestDistrict_37 : decode cX2_longestDistrict 37 = .ok (.aload_n 0, 1) := by decide +kernel
theorem dX2_longestDistrict_38 : decode cX2_longestDistrict 38 = .ok (.getfield 27, 3) := by decide +kernel
theorem dX2_longestDistrict_41 : decode cX2_longestDistrict 41 = .ok (.aload_n 0, 1) := by decide +kernel
theorem dX2_longestDistrict_42 : decode cX2_longestDistrict 42 = .ok (.getfield 18, 3) := by decide +kernel
theorem dX2_longestDistrict_45 : decode cX2_longestDistrict 45 = .ok (.iload_n 3, 1) := by decide +kernel
theorem dX2_longestDistrict_46 : decode cX2_longestDistrict 46 = .ok (.iaload, 1) := by decide +kernel
theorem dX2_longestDistrict_47 : decode cX2_longestDistrict 47 = .ok (.invokevirtual 116, 3) := by decide +kernel
theorem dX2_longestDistrict_50 : decode cX2_longestDistrict 50 = .ok (.invokevirtual 119, 3) := by decide +kernel
theorem dX2_longestDistrict_53 : decode cX2_longestDistrict 53 = .ok (.istore 4, 2) := by decide +kernel
theorem dX2_longestDistrict_55 : decode cX2_longestDistrict 55 = .ok (.iload 4, 2) := by decide +kernel
theorem dX2_longestDistrict_57 : decode cX2_longestDistrict 57 = .ok (.iload_n 2, 1) := by decide +kernel
theorem dX2_longestDistrict_58 : decode cX2_longestDistrict 58 = .ok (.if_icmp .le 8, 3) := by decide +kernel
theorem dX2_longestDistrict_61 : decode cX2_longestDistrict 61 = .ok (.iload 4, 2) := by decide +kernel
theorem dX2_longestDistrict_63 : decode cX2_longestDistrict 63 = .ok (.istore_n 2, 1) := by decide +kernel
theorem dX2_longestDistrict_64 : decode cX2_longestDistrict 64 = .ok (.iload_n 3, 1) := by decide +kernel
theorem dX2_longestDistrict_65 : decode cX2_longestDistrict 65 = .ok (.istore_n 1, 1) := by decide +kernel
theorem dX2_longestDistrict_66 : decode cX2_longestDistrict 66 = .ok (.iinc 3 1, 3) := by decide +kernel
theorem dX2_longestDistrict_69 : decode cX2_longestDistrict 69 = .ok (.goto (-44), 3) := by decide +kernel
theorem dX2_longestDistrict_72 : decode cX2_longestDistrict 72 = .ok (.iload_n 1, 1) := by decide +kernel
theorem dX2_longestDistrict_73 : decode cX2_longestDistrict 73 = .ok (.ireturn, 1) := by decide +kernel
theorem dX2_leafDistricts_0 : decode cX2_leafDistricts 0 = .ok (.iconst 0, 1) := by decide +kernel
theorem dX2_leafDistricts_1 : decode cX2_leafDistricts 1 = .ok (.istore_n 2, 1) := by decide +kernel
theorem dX2_leafDistricts_2 : decode cX2_leafDistricts 2 = .ok (.iconst 0, 1) := by decide +kernel
theorem dX2_leafDistricts_3 : decode cX2_leafDistricts 3 = .ok (.istore_n 3, 1) := by decide +kernel
theorem dX2_leafDistricts_4 : decode cX2_leafDistricts 4 = .ok (.iload_n 3, 1) := by decide +kernel
theorem dX2_leafDistricts_5 : decode cX2_leafDistricts 5 = .ok (.aload_n 0, 1) := by decide +kernel
theorem dX2_leafDistricts_6 : decode cX2_leafDistricts 6 = .ok (.getfield 80, 3) := by decide +kernel
theorem dX2_leafDistricts_9 : decode cX2_leafDistricts 9 = .ok (.if_icmp .ge 37, 3) := by decide +kernel
theorem dX2_leafDistricts_12 : decode cX2_leafDistricts 12 = .ok (.aload_n 0, 1) := by decide +kernel
theorem dX2_leafDistricts_13 : decode cX2_leafDistricts 13 = .ok (.getfield 18, 3) := by decide +kernel
theorem dX2_leafDistricts_16 : decode cX2_leafDistricts 16 = .ok (.iload_n 3, 1) := by decide +kernel
theorem dX2_leafDistricts_17 : decode cX2_leafDistricts 17 = .ok (.iaload, 1) := by decide +kernel
theorem dX2_leafDistricts_18 : decode cX2_leafDistricts 18 = .ok (.istore 4, 2) := by decide +kernel
theorem dX2_leafDistricts_20 : decode cX2_leafDistricts 20 = .ok (.iload 4, 2) := by decide +kernel
theorem dX2_leafDistricts_22 : decode cX2_leafDistricts 22 = .ok (.iload_n 1, 1) := by decide +kernel
theorem dX2_leafDistricts_23 : decode cX2_leafDistricts 23 = .ok (.iand, 1) := by decide +kernel
theorem dX2_leafDistricts_24 : decode cX2_leafDistricts 24 = .ok (.ifCond .eq 16, 3) := by decide +kernel
theorem dX2_leafDistricts_27 : decode cX2_leafDistricts 27 = .ok (.aload_n 0, 1) := by decide +kernel
theorem dX2_leafDistricts_28 : decode cX2_leafDistricts 28 = .ok (.iload 4, 2) := by decide +kernel
theorem dX2_leafDistricts_30 : decode cX2_leafDistricts 30 = .ok (.invokevirtual 122, 3) := by decide +kernel
theorem dX2_leafDistricts_33 : decode cX2_leafDistricts 33 = .ok (.iconst 1, 1) := by decide +kernel
theorem dX2_leafDistricts_34 : decode cX2_leafDistricts 34 = .ok (.if_icmp .ne 6, 3) := by decide +kernel
theorem dX2_leafDistricts_37 : decode cX2_leafDistricts 37 = .ok (.iinc 2 1, 3) := by decide +kernel
theorem dX2_leafDistricts_40 : decode cX2_leafDistricts 40 = .ok (.iinc 3 1, 3) := by decide +kernel
theorem dX2_leafDistricts_43 : decode cX2_leafDistricts 43 = .ok (.goto (-39), 3) := by decide +kernel
theorem dX2_leafDistricts_46 : decode cX2_leafDistricts 46 = .ok (.iload_n 2, 1) := by decide +kernel
theorem dX2_leafDistricts_47 : decode cX2_leafDistricts 47 = .ok (.ireturn, 1) := by decide +kernel
theorem dX2_leastRing_0 : decode cX2_leastRing 0 = .ok (.aload_n 0, 1) := by decide +kernel
theorem dX2_leastRing_1 : decode cX2_leastRing 1 = .ok (.getfield 27, 3) := by decide +kernel
theorem dX2_leastRing_4 : decode cX2_leastRing 4 = .ok (.invokevirtual 56, 3) := by decide +kernel
theorem dX2_leastRing_7 : decode cX2_leastRing 7 = .ok (.iconst 1, 1) := by decide +kernel
theorem dX2_leastRing_8 : decode cX2_leastRing 8 = .ok (.iload_n 1, 1) := by decide +kernel
theorem dX2_leastRing_9 : decode cX2_leastRing 9 = .ok (.ishl, 1) := by decide +kernel
theorem dX2_leastRing_10 : decode cX2_leastRing 10 = .ok (.iconst (-1), 1) := by decide +kernel
theorem dX2_leastRing_11 : decode cX2_leastRing 11 = .ok (.ixor, 1) := by decide +kernel
theorem dX2_leastRing_12 : decode cX2_leastRing 12 = .ok (.iand, 1) := by decide +kernel
theorem dX2_leastRing_13 : decode cX2_leastRing 13 = .ok (.istore_n 2, 1) := by decide +kernel
theorem dX2_leastRing_14 : decode cX2_leastRing 14 = .ok (.iconst 1, 1) := by decide +kernel
theorem dX2_leastRing_15 : decode cX2_leastRing 15 = .ok (.aload_n 0, 1) := by decide +kernel
theorem dX2_leastRing_16 : decode cX2_leastRing 16 = .ok (.getfield 27, 3) := by decide +kernel
theorem dX2_leastRing_19 : decode cX2_leastRing 19 = .ok (.getfield 74, 3) := by decide +kernel
theorem dX2_leastRing_22 : decode cX2_leastRing 22 = .ok (.iload_n 1, 1) := by decide +kernel
theorem dX2_leastRing_23 : decode cX2_leastRing 23 = .ok (.iaload, 1) := by decide +kernel
theorem dX2_leastRing_24 : decode cX2_leastRing 24 = .ok (.ishl, 1) := by decide +kernel
theorem dX2_leastRing_25 : decode cX2_leastRing 25 = .ok (.istore_n 3, 1) := by decide +kernel
theorem dX2_leastRing_26 : decode cX2_leastRing 26 = .ok (.iconst 2, 1) := by decide +kernel
theorem dX2_leastRing_27 : decode cX2_leastRing 27 = .ok (.istore 4, 2) := by decide +kernel
theorem dX2_leastRing_29 : decode cX2_leastRing 29 = .ok (.iload 4, 2) := by decide +kernel
theorem dX2_leastRing_31 : decode cX2_leastRing 31 = .ok (.bipush 16, 2) := by decide +kernel
theorem dX2_leastRing_33 : decode cX2_leastRing 33 = .ok (.if_icmp .gt 38, 3) := by decide +kernel
theorem dX2_leastRing_36 : decode cX2_leastRing 36 = .ok (.aload_n 0, 1) := by decide +kernel
theorem dX2_leastRing_37 : decode cX2_leastRing 37 = .ok (.getfield 27, 3) := by decide +kernel
theorem dX2_leastRing_40 : decode cX2_leastRing 40 = .ok (.iload_n 3, 1) := by decide +kernel
theorem dX2_leastRing_41 : decode cX2_leastRing 41 = .ok (.iload_n 2, 1) := by decide +kernel
theorem dX2_leastRing_42 : decode cX2_leastRing 42 = .ok (.invokevirtual 125, 3) := by decide +kernel
theorem dX2_leastRing_45 : decode cX2_leastRing 45 = .ok (.istore_n 3, 1) := by decide +kernel
theorem dX2_leastRing_46 : decode cX2_leastRing 46 = .ok (.iload_n 3, 1) := by decide +kernel
theorem dX2_leastRing_47 : decode cX2_leastRing 47 = .ok (.aload_n 0, 1) := by decide +kernel
theorem dX2_leastRing_48 : decode cX2_leastRing 48 = .ok (.getfield 27, 3) := by decide +kernel
theorem dX2_leastRing_51 : decode cX2_leastRing 51 = .ok (.getfield 77, 3) := by decide +kernel
theorem dX2_leastRing_54 : decode cX2_leastRing 54 = .ok (.iload_n 1, 1) := by decide +kernel
theorem dX2_leastRing_55 : decode cX2_leastRing 55 = .ok (.iaload, 1) := by decide +kernel
theorem dX2_leastRing_56 : decode cX2_leastRing 56 = .ok (.invokestatic 52, 3) := by decide +kernel
theorem dX2_leastRing_59 : decode cX2_leastRing 59 = .ok (.ifCond .eq 6, 3) := by decide +kernel
theorem dX2_leastRing_62 : decode cX2_leastRing 62 = .ok (.iload 4, 2) := by decide +kernel
theorem dX2_leastRing_64 : decode cX2_leastRing 64 = .ok (.ireturn, 1) := by decide +kernel
theorem dX2_leastRing_65 : decode cX2_leastRing 65 = .ok (.iinc 4 1, 3) := by decide +kernel
theorem dX2_leastRing_68 : decode cX2_leastRing 68 = .ok (.goto (-39), 3) := by decide +kernel
theorem dX2_leastRing_71 : decode cX2_leastRing 71 = .ok (.bipush (-6), 2) := by decide +kernel
theorem dX2_leastRing_73 : decode cX2_leastRing 73 = .ok (.ireturn, 1) := by decide +kernel
theorem dX2_leastLength_0 : decode cX2_leastLength 0 = .ok (.iconst 0, 1) := by decide +kernel
theorem dX2_leastLength_1 : decode cX2_leastLength 1 = .ok (.istore_n 3, 1) := by decide +kernel
theorem dX2_leastLength_2 : decode cX2_leastLength 2 = .ok (.iload_n 3, 1) := by decide +kernel
theorem dX2_leastLength_3 : decode cX2_leastLength 3 = .ok (.bipush 16, 2) := by decide +kernel
theorem dX2_leastLength_5 : decode cX2_leastLength 5 = .ok (.if_icmp .ge 18, 3) := by decide +kernel
theorem dX2_leastLength_8 : decode cX2_leastLength 8 = .ok (.aload_n 0, 1) := by decide +kernel
theorem dX2_leastLength_9 : decode cX2_leastLength 9 = .ok (.getfield 24, 3) := by decide +kernel
theorem dX2_leastLength_12 : decode cX2_leastLength 12 = .ok (.iload_n 3, 1) := by decide +kernel
theorem dX2_leastLength_13 : decode cX2_leastLength 13 = .ok (.sipush 1584, 3) := by decide +kernel
theorem dX2_leastLength_16 : decode cX2_leastLength 16 = .ok (.iastore, 1) := by decide +kernel
theorem dX2_leastLength_17 : decode cX2_leastLength 17 = .ok (.iinc 3 1, 3) := by decide +kernel
theorem dX2_leastLength_20 : decode cX2_leastLength 20 = .ok (.goto (-18), 3) := by decide +kernel
theorem dX2_leastLength_23 : decode cX2_leastLength 23 = .ok (.aload_n 0, 1) := by decide +kernel
theorem dX2_leastLength_24 : decode cX2_leastLength 24 = .ok (.getfield 24, 3) := by decide +kernel
theorem dX2_leastLength_27 : decode cX2_leastLength 27 = .ok (.iload_n 1, 1) := by decide +kernel
theorem dX2_leastLength_28 : decode cX2_leastLength 28 = .ok (.iconst 0, 1) := by decide +kernel
theorem dX2_leastLength_29 : decode cX2_leastLength 29 = .ok (.iastore, 1) := by decide +kernel
theorem dX2_leastLength_30 : decode cX2_leastLength 30 = .ok (.iconst 1, 1) := by decide +kernel
theorem dX2_leastLength_31 : decode cX2_leastLength 31 = .ok (.istore_n 3, 1) := by decide +kernel
theorem dX2_leastLength_32 : decode cX2_leastLength 32 = .ok (.iconst 0, 1) := by decide +kernel
theorem dX2_leastLength_33 : decode cX2_leastLength 33 = .ok (.istore 4, 2) := by decide +kernel
theorem dX2_leastLength_35 : decode cX2_leastLength 35 = .ok (.iload 4, 2) := by decide +kernel
theorem dX2_leastLength_37 : decode cX2_leastLength 37 = .ok (.bipush 16, 2) := by decide +kernel
theorem dX2_leastLength_39 : decode cX2_leastLength 39 = .ok (.if_icmp .ge 112, 3) := by decide +kernel
theorem dX2_leastLength_42 : decode cX2_leastLength 42 = .ok (.iload_n 3, 1) := by decide +kernel
theorem dX2_leastLength_43 : decode cX2_leastLength 43 = .ok (.ifCond .eq 108, 3) := by decide +kernel
theorem dX2_leastLength_46 : decode cX2_leastLength 46 = .ok (.iconst 0, 1) := by decide +kernel
theorem dX2_leastLength_47 : decode cX2_leastLength 47 = .ok (.istore_n 3, 1) := by decide +kernel
theorem dX2_leastLength_48 : decode cX2_leastLength 48 = .ok (.iconst 0, 1) := by decide +kernel
theorem dX2_leastLength_49 : decode cX2_leastLength 49 = .ok (.istore 5, 2) := by decide +kernel
theorem dX2_leastLength_51 : decode cX2_leastLength 51 = .ok (.iload 5, 2) := by decide +kernel
theorem dX2_leastLength_53 : decode cX2_leastLength 53 = .ok (.aload_n 0, 1) := by decide +kernel
theorem dX2_leastLength_54 : decode cX2_leastLength 54 = .ok (.getfield 27, 3) := by decide +kernel
theorem dX2_leastLength_57 : decode cX2_leastLength 57 = .ok (.getfield 71, 3) := by decide +kernel
theorem dX2_leastLength_60 : decode cX2_leastLength 60 = .ok (.if_icmp .ge 85, 3) := by decide +kernel
theorem dX2_leastLength_63 : decode cX2_leastLength 63 = .ok (.aload_n 0, 1) := by decide +kernel
theorem dX2_leastLength_64 : decode cX2_leastLength 64 = .ok (.aload_n 0, 1) := by decide +kernel
theorem dX2_leastLength_65 : decode cX2_leastLength 65 = .ok (.getfield 27, 3) := by decide +kernel
theorem dX2_leastLength_68 : decode cX2_leastLength 68 = .ok (.getfield 74, 3) := by decide +kernel
theorem dX2_leastLength_71 : decode cX2_leastLength 71 = .ok (.iload 5, 2) := by decide +kernel
theorem dX2_leastLength_73 : decode cX2_leastLength 73 = .ok (.iaload, 1) := by decide +kernel
theorem dX2_leastLength_74 : decode cX2_leastLength 74 = .ok (.aload_n 0, 1) := by decide +kernel
theorem dX2_leastLength_75 : decode cX2_leastLength 75 = .ok (.getfield 27, 3) := by decide +kernel
theorem dX2_leastLength_78 : decode cX2_leastLength 78 = .ok (.getfield 77, 3) := by decide +kernel
theorem dX2_leastLength_81 : decode cX2_leastLength 81 = .ok (.iload 5, 2) := by decide +kernel
theorem dX2_leastLength_83 : decode cX2_leastLength 83 = .ok (.iaload, 1) := by decide +kernel
theorem dX2_leastLength_84 : decode cX2_leastLength 84 = .ok (.aload_n 0, 1) := by decide +kernel
theorem dX2_leastLength_85 : decode cX2_leastLength 85 = .ok (.getfield 27, 3) := by decide +kernel
theorem dX2_leastLength_88 : decode cX2_leastLength 88 = .ok (.getfield 128, 3) := by decide +kernel
theorem dX2_leastLength_91 : decode cX2_leastLength 91 = .ok (.iload 5, 2) := by decide +kernel
theorem dX2_leastLength_93 : decode cX2_leastLength 93 = .ok (.iaload, 1) := by decide +kernel
theorem dX2_leastLength_94 : decode cX2_leastLength 94 = .ok (.invokevirtual 131, 3) := by decide +kernel
theorem dX2_leastLength_97 : decode cX2_leastLength 97 = .ok (.ifCond .ne 40, 3) := by decide +kernel
theorem dX2_leastLength_100 : decode cX2_leastLength 100 = .ok (.aload_n 0, 1) := by decide +kernel
theorem dX2_leastLength_101 : decode cX2_leastLength 101 = .ok (.aload_n 0, 1) := by decide +kernel
theorem dX2_leastLength_102 : decode cX2_leastLength 102 = .ok (.getfield 27, 3) := by decide +kernel
theorem dX2_leastLength_105 : decode cX2_leastLength 105 = .ok (.getfield 77, 3) := by decide +kernel
theorem dX2_leastLength_108 : decode cX2_leastLength 108 = .ok (.iload 5, 2) := by decide +kernel
theorem dX2_leastLength_110 : decode cX2_leastLength 110 = .ok (.iaload, 1) := by decide +kernel
theorem dX2_leastLength_111 : decode cX2_leastLength 111 = .ok (.aload_n 0, 1) := by decide +kernel
theorem dX2_leastLength_112 : decode cX2_leastLength 112 = .ok (.getfield 27, 3) := by decide +kernel
theorem dX2_leastLength_115 : decode cX2_leastLength 115 = .ok (.getfield 74, 3) := by decide +kernel
theorem dX2_leastLength_118 : decode cX2_leastLength 118 = .ok (.iload 5, 2) := by decide +kernel
theorem dX2_leastLength_120 : decode cX2_leastLength 120 = .ok (.iaload, 1) := by decide +kernel
theorem dX2_leastLength_121 : decode cX2_leastLength 121 = .ok (.aload_n 0, 1) := by decide +kernel
theorem dX2_leastLength_122 : decode cX2_leastLength 122 = .ok (.getfield 27, 3) := by decide +kernel
theorem dX2_leastLength_125 : decode cX2_leastLength 125 = .ok (.getfield 128, 3) := by decide +kernel
theorem dX2_leastLength_128 : decode cX2_leastLength 128 = .ok (.iload 5, 2) := by decide +kernel
theorem dX2_leastLength_130 : decode cX2_leastLength 130 = .ok (.iaload, 1) := by decide +kernel
theorem dX2_leastLength_131 : decode cX2_leastLength 131 = .ok (.invokevirtual 131, 3) := by decide +kernel
theorem dX2_leastLength_134 : decode cX2_leastLength 134 = .ok (.ifCond .eq 5, 3) := by decide +kernel
theorem dX2_leastLength_137 : decode cX2_leastLength 137 = .ok (.iconst 1, 1) := by decide +kernel
theorem dX2_leastLength_138 : decode cX2_leastLength 138 = .ok (.istore_n 3, 1) := by decide +kernel
theorem dX2_leastLength_139 : decode cX2_leastLength 139 = .ok (.iinc 5 1, 3) := by decide +kernel
theorem dX2_leastLength_142 : decode cX2_leastLength 142 = .ok (.goto (-91), 3) := by decide +kernel
theorem dX2_leastLength_145 : decode cX2_leastLength 145 = .ok (.iinc 4 1, 3) := by decide +kernel
theorem dX2_leastLength_148 : decode cX2_leastLength 148 = .ok (.goto (-113), 3) := by decide +kernel
theorem dX2_leastLength_151 : decode cX2_leastLength 151 = .ok (.aload_n 0, 1) := by decide +kernel
theorem dX2_leastLength_152 : decode cX2_leastLength 152 = .ok (.getfield 24, 3) := by decide +kernel
theorem dX2_leastLength_155 : decode cX2_leastLength 155 = .ok (.iload_n 2, 1) := by decide +kernel
theorem dX2_leastLength_156 : decode cX2_leastLength 156 = .ok (.iaload, 1) := by decide +kernel
theorem dX2_leastLength_157 : decode cX2_leastLength 157 = .ok (.ireturn, 1) := by decide +kernel
theorem dX2_shorten_0 : decode cX2_shorten 0 = .ok (.aload_n 0, 1) := by decide +kernel
theorem dX2_shorten_1 : decode cX2_shorten 1 = .ok (.getfield 24, 3) := by decide +kernel
theorem dX2_shorten_4 : decode cX2_shorten 4 = .ok (.iload_n 1, 1) := by decide +kernel
theorem dX2_shorten_5 : decode cX2_shorten 5 = .ok (.iaload, 1) := by decide +kernel
theorem dX2_shorten_6 : decode cX2_shorten 6 = .ok (.iload_n 3, 1) := by decide +kernel
theorem dX2_shorten_7 : decode cX2_shorten 7 = .ok (.iadd, 1) := by decide +kernel
theorem dX2_shorten_8 : decode cX2_shorten 8 = .ok (.aload_n 0, 1) := by decide +kernel
theorem dX2_shorten_9 : decode cX2_shorten 9 = .ok (.getfield 24, 3) := by decide +kernel
theorem dX2_shorten_12 : decode cX2_shorten 12 = .ok (.iload_n 2, 1) := by decide +kernel
theorem dX2_shorten_13 : decode cX2_shorten 13 = .ok (.iaload, 1) := by decide +kernel
theorem dX2_shorten_14 : decode cX2_shorten 14 = .ok (.if_icmp .lt 5, 3) := by decide +kernel
theorem dX2_shorten_17 : decode cX2_shorten 17 = .ok (.iconst 0, 1) := by decide +kernel
theorem dX2_shorten_18 : decode cX2_shorten 18 = .ok (.ireturn, 1) := by decide +kernel
theorem dX2_shorten_19 : decode cX2_shorten 19 = .ok (.aload_n 0, 1) := by decide +kernel
theorem dX2_shorten_20 : decode cX2_shorten 20 = .ok (.getfield 24, 3) := by decide +kernel
theorem dX2_shorten_23 : decode cX2_shorten 23 = .ok (.iload_n 2, 1) := by decide +kernel
theorem dX2_shorten_24 : decode cX2_shorten 24 = .ok (.aload_n 0, 1) := by decide +kernel
theorem dX2_shorten_25 : decode cX2_shorten 25 = .ok (.getfield 24, 3) := by decide +kernel
theorem dX2_shorten_28 : decode cX2_shorten 28 = .ok (.iload_n 1, 1) := by decide +kernel
theorem dX2_shorten_29 : decode cX2_shorten 29 = .ok (.iaload, 1) := by decide +kernel
theorem dX2_shorten_30 : decode cX2_shorten 30 = .ok (.iload_n 3, 1) := by decide +kernel
theorem dX2_shorten_31 : decode cX2_shorten 31 = .ok (.iadd, 1) := by decide +kernel
theorem dX2_shorten_32 : decode cX2_shorten 32 = .ok (.iastore, 1) := by decide +kernel
theorem dX2_shorten_33 : decode cX2_shorten 33 = .ok (.iconst 1, 1) := by decide +kernel
theorem dX2_shorten_34 : decode cX2_shorten 34 = .ok (.ireturn, 1) := by decide +kernel
theorem dX3_init_0 : decode cX3_init 0 = .ok (.aload_n 0, 1) := by decide +kernel
theorem dX3_init_1 : decode cX3_init 1 = .ok (.invokespecial 3, 3) := by decide +kernel
theorem dX3_init_4 : decode cX3_init 4 = .ok (.aload_n 0, 1) := by decide +kernel
theorem dX3_init_5 : decode cX3_init 5 = .ok (.bipush 8, 2) := by decide +kernel
theorem dX3_init_7 : decode cX3_init 7 = .ok (.putfield 9, 3) := by decide +kernel
theorem dX3_init_10 : decode cX3_init 10 = .ok (.aload_n 0, 1) := by decide +kernel
theorem dX3_init_11 : decode cX3_init 11 = .ok (.iconst 0, 1) := by decide +kernel
theorem dX3_init_12 : decode cX3_init 12 = .ok (.putfield 15, 3) := by decide +kernel
theorem dX3_init_15 : decode cX3_init 15 = .ok (.aload_n 0, 1) := by decide +kernel
theorem dX3_init_16 : decode cX3_init 16 = .ok (.bipush 30, 2) := by decide +kernel
theorem dX3_init_18 : decode cX3_init 18 = .ok (.newarray .int, 2) := by decide +kernel
theorem dX3_init_20 : decode cX3_init 20 = .ok (.putfield 18, 3) := by decide +kernel
theorem dX3_init_23 : decode cX3_init 23 = .ok (.aload_n 0, 1) := by decide +kernel
theorem dX3_init_24 : decode cX3_init 24 = .ok (.bipush 30, 2) := by decide +kernel
theorem dX3_init_26 : decode cX3_init 26 = .ok (.newarray .int, 2) := by decide +kernel
theorem dX3_init_28 : decode cX3_init 28 = .ok (.putfield 22, 3) := by decide +kernel
theorem dX3_init_31 : decode cX3_init 31 = .ok (.aload_n 0, 1) := by decide +kernel
theorem dX3_init_32 : decode cX3_init 32 = .ok (.bipush 30, 2) := by decide +kernel
theorem dX3_init_34 : decode cX3_init 34 = .ok (.newarray .int, 2) := by decide +kernel
theorem dX3_init_36 : decode cX3_init 36 = .ok (.putfield 25, 3) := by decide +kernel
theorem dX3_init_39 : decode cX3_init 39 = .ok (.aload_n 0, 1) := by decide +kernel
theorem dX3_init_40 : decode cX3_init 40 = .ok (.bipush 30, 2) := by decide +kernel
theorem dX3_init_42 : decode cX3_init 42 = .ok (.newarray .int, 2) := by decide +kernel
theorem dX3_init_44 : decode cX3_init 44 = .ok (.putfield 28, 3) := by decide +kernel
theorem dX3_init_47 : decode cX3_init 47 = .ok (.return_, 1) := by decide +kernel
theorem dX3_copyFrom_0 : decode cX3_copyFrom 0 = .ok (.aload_n 0, 1) := by decide +kernel
theorem dX3_copyFrom_1 : decode cX3_copyFrom 1 = .ok (.aload_n 1, 1) := by decide +kernel
theorem dX3_copyFrom_2 : decode cX3_copyFrom 2 = .ok (.getfield 9, 3) := by decide +kernel
theorem dX3_copyFrom_5 : decode cX3_copyFrom 5 = .ok (.putfield 9, 3) := by decide +kernel
theorem dX3_copyFrom_8 : decode cX3_copyFrom 8 = .ok (.aload_n 0, 1) := by decide +kernel
theorem dX3_copyFrom_9 : decode cX3_copyFrom 9 = .ok (.aload_n 1, 1) := by decide +kernel
theorem dX3_copyFrom_10 : decode cX3_copyFrom 10 = .ok (.getfield 15, 3) := by decide +kernel
theorem dX3_copyFrom_13 : decode cX3_copyFrom 13 = .ok (.putfield 15, 3) := by decide +kernel
theorem dX3_copyFrom_16 : decode cX3_copyFrom 16 = .ok (.aload_n 1, 1) := by decide +kernel
theorem dX3_copyFrom_17 : decode cX3_copyFrom 17 = .ok (.getfield 18, 3) := by decide +kernel
theorem dX3_copyFrom_20 : decode cX3_copyFrom 20 = .ok (.iconst 0, 1) := by decide +kernel
theorem dX3_copyFrom_21 : decode cX3_copyFrom 21 = .ok (.aload_n 0, 1) := by decide +kernel
theorem dX3_copyFrom_22 : decode cX3_copyFrom 22 = .ok (.getfield 18, 3) := by decide +kernel
theorem dX3_copyFrom_25 : decode cX3_copyFrom 25 = .ok (.iconst 0, 1) := by decide +kernel
theorem dX3_copyFrom_26 : decode cX3_copyFrom 26 = .ok (.bipush 30, 2) := by decide +kernel
theorem dX3_copyFrom_28 : decode cX3_copyFrom 28 = .ok (.invokestatic 31, 3) := by decide +kernel
theorem dX3_copyFrom_31 : decode cX3_copyFrom 31 = .ok (.aload_n 1, 1) := by decide +kernel
theorem dX3_copyFrom_32 : decode cX3_copyFrom 32 = .ok (.getfield 22, 3) := by decide +kernel
theorem dX3_copyFrom_35 : decode cX3_copyFrom 35 = .ok (.iconst 0, 1) := by decide +kernel
theorem dX3_copyFrom_36 : decode cX3_copyFrom 36 = .ok (.aload_n 0, 1) := by decide +kernel
theorem dX3_copyFrom_37 : decode cX3_copyFrom 37 = .ok (.getfield 22, 3) := by decide +kernel
theorem dX3_copyFrom_40 : decode cX3_copyFrom 40 = .ok (.iconst 0, 1) := by decide +kernel
theorem dX3_copyFrom_41 : decode cX3_copyFrom 41 = .ok (.bipush 30, 2) := by decide +kernel
theorem dX3_copyFrom_43 : decode cX3_copyFrom 43 = .ok (.invokestatic 31, 3) := by decide +kernel
theorem dX3_copyFrom_46 : decode cX3_copyFrom 46 = .ok (.aload_n 1, 1) := by decide +kernel
theorem dX3_copyFrom_47 : decode cX3_copyFrom 47 = .ok (.getfield 25, 3) := by decide +kernel
theorem dX3_copyFrom_50 : decode cX3_copyFrom 50 = .ok (.iconst 0, 1) := by decide +kernel
theorem dX3_copyFrom_51 : decode cX3_copyFrom 51 = .ok (.aload_n 0, 1) := by decide +kernel
theorem dX3_copyFrom_52 : decode cX3_copyFrom 52 = .ok (.getfield 25, 3) := by decide +kernel
theorem dX3_copyFrom_55 : decode cX3_copyFrom 55 = .ok (.iconst 0, 1) := by decide +kernel
theorem dX3_copyFrom_56 : decode cX3_copyFrom 56 = .ok (.bipush 30, 2) := by decide +kernel
theorem dX3_copyFrom_58 : decode cX3_copyFrom 58 = .ok (.invokestatic 31, 3) := by decide +kernel
theorem dX3_copyFrom_61 : decode cX3_copyFrom 61 = .ok (.aload_n 1, 1) := by decide +kernel
theorem dX3_copyFrom_62 : decode cX3_copyFrom 62 = .ok (.getfield 28, 3) := by decide +kernel
theorem dX3_copyFrom_65 : decode cX3_copyFrom 65 = .ok (.iconst 0, 1) := by decide +kernel
theorem dX3_copyFrom_66 : decode cX3_copyFrom 66 = .ok (.aload_n 0, 1) := by decide +kernel
theorem dX3_copyFrom_67 : decode cX3_copyFrom 67 = .ok (.getfield 28, 3) := by decide +kernel
theorem dX3_copyFrom_70 : decode cX3_copyFrom 70 = .ok (.iconst 0, 1) := by decide +kernel
theorem dX3_copyFrom_71 : decode cX3_copyFrom 71 = .ok (.bipush 30, 2) := by decide +kernel
theorem dX3_copyFrom_73 : decode cX3_copyFrom 73 = .ok (.invokestatic 31, 3) := by decide +kernel
theorem dX3_copyFrom_76 : decode cX3_copyFrom 76 = .ok (.return_, 1) := by decide +kernel
theorem dX3_hasSquare_0 : decode cX3_hasSquare 0 = .ok (.iload_n 1, 1) := by decide +kernel
theorem dX3_hasSquare_1 : decode cX3_hasSquare 1 = .ok (.ifCond .lt 15, 3) := by decide +kernel
theorem dX3_hasSquare_4 : decode cX3_hasSquare 4 = .ok (.iload_n 1, 1) := by decide +kernel
theorem dX3_hasSquare_5 : decode cX3_hasSquare 5 = .ok (.aload_n 0, 1) := by decide +kernel
theorem dX3_hasSquare_6 : decode cX3_hasSquare 6 = .ok (.getfield 9, 3) := by decide +kernel
theorem dX3_hasSquare_9 : decode cX3_hasSquare 9 = .ok (.if_icmp .ge 7, 3) := by decide +kernel
theorem dX3_hasSquare_12 : decode cX3_hasSquare 12 = .ok (.iconst 1, 1) := by decide +kernel
theorem dX3_hasSquare_13 : decode cX3_hasSquare 13 = .ok (.goto 4, 3) := by decide +kernel
theorem dX3_hasSquare_16 : decode cX3_hasSquare 16 = .ok (.iconst 0, 1) := by decide +kernel
theorem dX3_hasSquare_17 : decode cX3_hasSquare 17 = .ok (.ireturn, 1) := by decide +kernel
theorem dX3_hasRoad_0 : decode cX3_hasRoad 0 = .ok (.iload_n 1, 1) := by decide +kernel
theorem dX3_hasRoad_1 : decode cX3_hasRoad 1 = .ok (.ifCond .lt 15, 3) := by decide +kernel
theorem dX3_hasRoad_4 : decode cX3_hasRoad 4 = .ok (.iload_n 1, 1) := by decide +kernel
theorem dX3_hasRoad_5 : decode cX3_hasRoad 5 = .ok (.aload_n 0, 1) := by decide +kernel
theorem dX3_hasRoad_6 : decode cX3_hasRoad 6 = .ok (.getfield 15, 3) := by decide +kernel
theorem dX3_hasRoad_9 : decode cX3_hasRoad 9 = .ok (.if_icmp .ge 7, 3) := by decide +kernel
theorem dX3_hasRoad_12 : decode cX3_hasRoad 12 = .ok (.iconst 1, 1) := by decide +kernel
theorem dX3_hasRoad_13 : decode cX3_hasRoad 13 = .ok (.goto 4, 3) := by decide +kernel
theorem dX3_hasRoad_16 : decode cX3_hasRoad 16 = .ok (.iconst 0, 1) := by decide +kernel
theorem dX3_hasRoad_17 : decode cX3_hasRoad 17 = .ok (.ireturn, 1) := by decide +kernel
theorem dX3_fitsInto_0 : decode cX3_fitsInto 0 = .ok (.iconst 0, 1) := by decide +kernel
theorem dX3_fitsInto_1 : decode cX3_fitsInto 1 = .ok (.istore_n 2, 1) := by decide +kernel
theorem dX3_fitsInto_2 : decode cX3_fitsInto 2 = .ok (.iload_n 2, 1) := by decide +kernel
theorem dX3_fitsInto_3 : decode cX3_fitsInto 3 = .ok (.aload_n 0, 1) := by decide +kernel
theorem dX3_fitsInto_4 : decode cX3_fitsInto 4 = .ok (.getfield 15, 3) := by decide +kernel
theorem dX3_fitsInto_7 : decode cX3_fitsInto 7 = .ok (.if_icmp .ge 21, 3) := by decide +kernel
theorem dX3_fitsInto_10 : decode cX3_fitsInto 10 = .ok (.aload_n 0, 1) := by decide +kernel
theorem dX3_fitsInto_11 : decode cX3_fitsInto 11 = .ok (.getfield 22, 3) := by decide +kernel
theorem dX3_fitsInto_14 : decode cX3_fitsInto 14 = .ok (.iload_n 2, 1) := by decide +kernel
theorem dX3_fitsInto_15 : decode cX3_fitsInto 15 = .ok (.iaload, 1) := by decide +kernel
theorem dX3_fitsInto_16 : decode cX3_fitsInto 16 = .ok (.iload_n 1, 1) := by decide +kernel
theorem dX3_fitsInto_17 : decode cX3_fitsInto 17 = .ok (.if_icmp .lt 5, 3) := by decide +kernel
theorem dX3_fitsInto_20 : decode cX3_fitsInto 20 = .ok (.iconst 0, 1) := by decide +kernel
theorem dX3_fitsInto_21 : decode cX3_fitsInto 21 = .ok (.ireturn, 1) := by decide +kernel
theorem dX3_fitsInto_22 : decode cX3_fitsInto 22 = .ok (.iinc 2 1, 3) := by decide +kernel
theorem dX3_fitsInto_25 : decode cX3_fitsInto 25 = .ok (.goto (-23), 3) := by decide +kernel
theorem dX3_fitsInto_28 : decode cX3_fitsInto 28 = .ok (.iconst 1, 1) := by decide +kernel
theorem dX3_fitsInto_29 : decode cX3_fitsInto 29 = .ok (.ireturn, 1) := by decide +kernel
theorem dX3_addRoad_0 : decode cX3_addRoad 0 = .ok (.aload_n 0, 1) := by decide +kernel
theorem dX3_addRoad_1 : decode cX3_addRoad 1 = .ok (.getfield 15, 3) := by decide +kernel
theorem dX3_addRoad_4 : decode cX3_addRoad 4 = .ok (.bipush 30, 2) := by decide +kernel
theorem dX3_addRoad_6 : decode cX3_addRoad 6 = .ok (.if_icmp .lt 4, 3) := by decide +kernel
theorem dX3_addRoad_9 : decode cX3_addRoad 9 = .ok (.return_, 1) := by decide +kernel
theorem dX3_addRoad_10 : decode cX3_addRoad 10 = .ok (.aload_n 0, 1) := by decide +kernel
theorem dX3_addRoad_11 : decode cX3_addRoad 11 = .ok (.getfield 18, 3) := by decide +kernel
theorem dX3_addRoad_14 : decode cX3_addRoad 14 = .ok (.aload_n 0, 1) := by decide +kernel
theorem dX3_addRoad_15 : decode cX3_addRoad 15 = .ok (.getfield 15, 3) := by decide +kernel
theorem dX3_addRoad_18 : decode cX3_addRoad 18 = .ok (.iload_n 1, 1) := by decide +kernel
theorem dX3_addRoad_19 : decode cX3_addRoad 19 = .ok (.iload_n 2, 1) := by decide +kernel
theorem dX3_addRoad_20 : decode cX3_addRoad 20 = .ok (.invokestatic 37, 3) := by decide +kernel
theorem dX3_addRoad_23 : decode cX3_addRoad 23 = .ok (.iastore, 1) := by decide +kernel
theorem dX3_addRoad_24 : decode cX3_addRoad 24 = .ok (.aload_n 0, 1) := by decide +kernel
theorem dX3_addRoad_25 : decode cX3_addRoad 25 = .ok (.getfield 22, 3) := by decide +kernel
theorem dX3_addRoad_28 : decode cX3_addRoad 28 = .ok (.aload_n 0, 1) := by decide +kernel
theorem dX3_addRoad_29 : decode cX3_addRoad 29 = .ok (.getfield 15, 3) := by decide +kernel
theorem dX3_addRoad_32 : decode cX3_addRoad 32 = .ok (.iload_n 1, 1) := by decide +kernel
theorem dX3_addRoad_33 : decode cX3_addRoad 33 = .ok (.iload_n 2, 1) := by decide +kernel
theorem dX3_addRoad_34 : decode cX3_addRoad 34 = .ok (.invokestatic 43, 3) := by decide +kernel
theorem dX3_addRoad_37 : decode cX3_addRoad 37 = .ok (.iastore, 1) := by decide +kernel
theorem dX3_addRoad_38 : decode cX3_addRoad 38 = .ok (.aload_n 0, 1) := by decide +kernel
theorem dX3_addRoad_39 : decode cX3_addRoad 39 = .ok (.getfield 25, 3) := by decide +kernel
theorem dX3_addRoad_42 : decode cX3_addRoad 42 = .ok (.aload_n 0, 1) := by decide +kernel
theorem dX3_addRoad_43 : decode cX3_addRoad 43 = .ok (.getfield 15, 3) := by decide +kernel
theorem dX3_addRoad_46 : decode cX3_addRoad 46 = .ok (.iload_n 3, 1) := by decide +kernel
theorem dX3_addRoad_47 : decode cX3_addRoad 47 = .ok (.iastore, 1) := by decide +kernel
theorem dX3_addRoad_48 : decode cX3_addRoad 48 = .ok (.aload_n 0, 1) := by decide +kernel
theorem dX3_addRoad_49 : decode cX3_addRoad 49 = .ok (.getfield 28, 3) := by decide +kernel
theorem dX3_addRoad_52 : decode cX3_addRoad 52 = .ok (.aload_n 0, 1) := by decide +kernel
theorem dX3_addRoad_53 : decode cX3_addRoad 53 = .ok (.getfield 15, 3) := by decide +kernel
theorem dX3_addRoad_56 : decode cX3_addRoad 56 = .ok (.iconst 1, 1) := by decide +kernel
theorem dX3_addRoad_57 : decode cX3_addRoad 57 = .ok (.iload_n 1, 1) := by decide +kernel
theorem dX3_addRoad_58 : decode cX3_addRoad 58 = .ok (.ishl, 1) := by decide +kernel
theorem dX3_addRoad_59 : decode cX3_addRoad 59 = .ok (.iconst 1, 1) := by decide +kernel
theorem dX3_addRoad_60 : decode cX3_addRoad 60 = .ok (.iload_n 2, 1) := by decide +kernel
theorem dX3_addRoad_61 : decode cX3_addRoad 61 = .ok (.ishl, 1) := by decide +kernel
theorem dX3_addRoad_62 : decode cX3_addRoad 62 = .ok (.ior, 1) := by decide +kernel
theorem dX3_addRoad_63 : decode cX3_addRoad 63 = .ok (.iastore, 1) := by decide +kernel
theorem dX3_addRoad_64 : decode cX3_addRoad 64 = .ok (.aload_n 0, 1) := by decide +kernel
theorem dX3_addRoad_65 : decode cX3_addRoad 65 = .ok (.dup, 1) := by decide +kernel
theorem dX3_addRoad_66 : decode cX3_addRoad 66 = .ok (.getfield 15, 3) := by decide +kernel
theorem dX3_addRoad_69 : decode cX3_addRoad 69 = .ok (.iconst 1, 1) := by decide +kernel
theorem dX3_addRoad_70 : decode cX3_addRoad 70 = .ok (.iadd, 1) := by decide +kernel
theorem dX3_addRoad_71 : decode cX3_addRoad 71 = .ok (.putfield 15, 3) := by decide +kernel
theorem dX3_addRoad_74 : decode cX3_addRoad 74 = .ok (.return_, 1) := by decide +kernel
theorem dX3_removeRoad_0 : decode cX3_removeRoad 0 = .ok (.iload_n 1, 1) := by decide +kernel
theorem dX3_removeRoad_1 : decode cX3_removeRoad 1 = .ok (.iconst 1, 1) := by decide +kernel
theorem dX3_removeRoad_2 : decode cX3_removeRoad 2 = .ok (.iadd, 1) := by decide +kernel
theorem dX3_removeRoad_3 : decode cX3_removeRoad 3 = .ok (.istore_n 2, 1) := by decide +kernel
theorem dX3_removeRoad_4 : decode cX3_removeRoad 4 = .ok (.iload_n 2, 1) := by decide +kernel
theorem dX3_removeRoad_5 : decode cX3_removeRoad 5 = .ok (.aload_n 0, 1) := by decide +kernel
theorem dX3_removeRoad_6 : decode cX3_removeRoad 6 = .ok (.getfield 15, 3) := by decide +kernel
theorem dX3_removeRoad_9 : decode cX3_removeRoad 9 = .ok (.if_icmp .ge 65, 3) := by decide +kernel
theorem dX3_removeRoad_12 : decode cX3_removeRoad 12 = .ok (.aload_n 0, 1) := by decide +kernel
theorem dX3_removeRoad_13 : decode cX3_removeRoad 13 = .ok (.getfield 18, 3) := by decide +kernel
theorem dX3_removeRoad_16 : decode cX3_removeRoad 16 = .ok (.iload_n 2, 1) := by decide +kernel
theorem dX3_removeRoad_17 : decode cX3_removeRoad 17 = .ok (.iconst 1, 1) := by decide +kernel
theorem dX3_removeRoad_18 : decode cX3_removeRoad 18 = .ok (.isub, 1) := by decide +kernel
theorem dX3_removeRoad_19 : decode cX3_removeRoad 19 = .ok (.aload_n 0, 1) := by decide +kernel
theorem dX3_removeRoad_20 : decode cX3_removeRoad 20 = .ok (.getfield 18, 3) := by decide +kernel
theorem dX3_removeRoad_23 : decode cX3_removeRoad 23 = .ok (.iload_n 2, 1) := by decide +kernel
theorem dX3_removeRoad_24 : decode cX3_removeRoad 24 = .ok (.iaload, 1) := by decide +kernel
theorem dX3_removeRoad_25 : decode cX3_removeRoad 25 = .ok (.iastore, 1) := by decide +kernel
theorem dX3_removeRoad_26 : decode cX3_removeRoad 26 = .ok (.aload_n 0, 1) := by decide +kernel
theorem dX3_removeRoad_27 : decode cX3_removeRoad 27 = .ok (.getfield 22, 3) := by decide +kernel
theorem dX3_removeRoad_30 : decode cX3_removeRoad 30 = .ok (.iload_n 2, 1) := by decide +kernel
theorem dX3_removeRoad_31 : decode cX3_removeRoad 31 = .ok (.iconst 1, 1) := by decide +kernel
theorem dX3_removeRoad_32 : decode cX3_removeRoad 32 = .ok (.isub, 1) := by decide +kernel
theorem dX3_removeRoad_33 : decode cX3_removeRoad 33 = .ok (.aload_n 0, 1) := by decide +kernel
theorem dX3_removeRoad_34 : decode cX3_removeRoad 34 = .ok (.getfield 22, 3) := by decide +kernel
theorem dX3_removeRoad_37 : decode cX3_removeRoad 37 = .ok (.iload_n 2, 1) := by decide +kernel
theorem dX3_removeRoad_38 : decode cX3_removeRoad 38 = .ok (.iaload, 1) := by decide +kernel
theorem dX3_removeRoad_39 : decode cX3_removeRoad 39 = .ok (.iastore, 1) := by decide +kernel
theorem dX3_removeRoad_40 : decode cX3_removeRoad 40 = .ok (.aload_n 0, 1) := by decide +kernel
theorem dX3_removeRoad_41 : decode cX3_removeRoad 41 = .ok (.getfield 25, 3) := by decide +kernel
theorem dX3_removeRoad_44 : decode cX3_removeRoad 44 = .ok (.iload_n 2, 1) := by decide +kernel
theorem dX3_removeRoad_45 : decode cX3_removeRoad 45 = .ok (.iconst 1, 1) := by decide +kernel
theorem dX3_removeRoad_46 : decode cX3_removeRoad 46 = .ok (.isub, 1) := by decide +kernel
theorem dX3_removeRoad_47 : decode cX3_removeRoad 47 = .ok (.aload_n 0, 1) := by decide +kernel
theorem dX3_removeRoad_48 : decode cX3_removeRoad 48 = .ok (.getfield 25, 3) := by decide +kernel
theorem dX3_removeRoad_51 : decode cX3_removeRoad 51 = .ok (.iload_n 2, 1) := by decide +kernel
theorem dX3_removeRoad_52 : decode cX3_removeRoad 52 = .ok (.iaload, 1) := by decide +kernel
theorem dX3_removeRoad_53 : decode cX3_removeRoad 53 = .ok (.iastore, 1) := by decide +kernel
theorem dX3_removeRoad_54 : decode cX3_removeRoad 54 = .ok (.aload_n 0, 1) := by decide +kernel
theorem dX3_removeRoad_55 : decode cX3_removeRoad 55 = .ok (.getfield 28, 3) := by decide +kernel
theorem dX3_removeRoad_58 : decode cX3_removeRoad 58 = .ok (.iload_n 2, 1) := by decide +kernel
theorem dX3_removeRoad_59 : decode cX3_removeRoad 59 = .ok (.iconst 1, 1) := by decide +kernel
theorem dX3_removeRoad_60 : decode cX3_removeRoad 60 = .ok (.isub, 1) := by decide +kernel
theorem dX3_removeRoad_61 : decode cX3_removeRoad 61 = .ok (.aload_n 0, 1) := by decide +kernel
theorem dX3_removeRoad_62 : decode cX3_removeRoad 62 = .ok (.getfield 28, 3) := by decide +kernel
theorem dX3_removeRoad_65 : decode cX3_removeRoad 65 = .ok (.iload_n 2, 1) := by decide +kernel
theorem dX3_removeRoad_66 : decode cX3_removeRoad 66 = .ok (.iaload, 1) := by decide +kernel
theorem dX3_removeRoad_67 : decode cX3_removeRoad 67 = .ok (.iastore, 1) := by decide +kernel
theorem dX3_removeRoad_68 : decode cX3_removeRoad 68 = .ok (.iinc 2 1, 3) := by decide +kernel
theorem dX3_removeRoad_71 : decode cX3_removeRoad 71 = .ok (.goto (-67), 3) := by decide +kernel
theorem dX3_removeRoad_74 : decode cX3_removeRoad 74 = .ok (.aload_n 0, 1) := by decide +kernel
theorem dX3_removeRoad_75 : decode cX3_removeRoad 75 = .ok (.dup, 1) := by decide +kernel
theorem dX3_removeRoad_76 : decode cX3_removeRoad 76 = .ok (.getfield 15, 3) := by decide +kernel
theorem dX3_removeRoad_79 : decode cX3_removeRoad 79 = .ok (.iconst 1, 1) := by decide +kernel
theorem dX3_removeRoad_80 : decode cX3_removeRoad 80 = .ok (.isub, 1) := by decide +kernel
theorem dX3_removeRoad_81 : decode cX3_removeRoad 81 = .ok (.putfield 15, 3) := by decide +kernel
theorem dX3_removeRoad_84 : decode cX3_removeRoad 84 = .ok (.return_, 1) := by decide +kernel
theorem dX3_allRoads_0 : decode cX3_allRoads 0 = .ok (.iconst 1, 1) := by decide +kernel
theorem dX3_allRoads_1 : decode cX3_allRoads 1 = .ok (.aload_n 0, 1) := by decide +kernel
theorem dX3_allRoads_2 : decode cX3_allRoads 2 = .ok (.getfield 15, 3) := by decide +kernel
theorem dX3_allRoads_5 : decode cX3_allRoads 5 = .ok (.ishl, 1) := by decide +kernel
theorem dX3_allRoads_6 : decode cX3_allRoads 6 = .ok (.iconst 1, 1) := by decide +kernel
theorem dX3_allRoads_7 : decode cX3_allRoads 7 = .ok (.isub, 1) := by decide +kernel
theorem dX3_allRoads_8 : decode cX3_allRoads 8 = .ok (.ireturn, 1) := by decide +kernel
theorem dX3_roadsAt_0 : decode cX3_roadsAt 0 = .ok (.iconst 0, 1) := by decide +kernel
theorem dX3_roadsAt_1 : decode cX3_roadsAt 1 = .ok (.istore_n 2, 1) := by decide +kernel
theorem dX3_roadsAt_2 : decode cX3_roadsAt 2 = .ok (.iconst 0, 1) := by decide +kernel
theorem dX3_roadsAt_3 : decode cX3_roadsAt 3 = .ok (.istore_n 3, 1) := by decide +kernel
theorem dX3_roadsAt_4 : decode cX3_roadsAt 4 = .ok (.iload_n 3, 1) := by decide +kernel
theorem dX3_roadsAt_5 : decode cX3_roadsAt 5 = .ok (.aload_n 0, 1) := by decide +kernel
theorem dX3_roadsAt_6 : decode cX3_roadsAt 6 = .ok (.getfield 15, 3) := by decide +kernel
theorem dX3_roadsAt_9 : decode cX3_roadsAt 9 = .ok (.if_icmp .ge 28, 3) := by decide +kernel
theorem dX3_roadsAt_12 : decode cX3_roadsAt 12 = .ok (.aload_n 0, 1) := by decide +kernel
theorem dX3_roadsAt_13 : decode cX3_roadsAt 13 = .ok (.getfield 28, 3) := by decide +kernel
theorem dX3_roadsAt_16 : decode cX3_roadsAt 16 = .ok (.iload_n 3, 1) := by decide +kernel
theorem dX3_roadsAt_17 : decode cX3_roadsAt 17 = .ok (.iaload, 1) := by decide +kernel
theorem dX3_roadsAt_18 : decode cX3_roadsAt 18 = .ok (.iload_n 1, 1) := by decide +kernel
theorem dX3_roadsAt_19 : decode cX3_roadsAt 19 = .ok (.invokestatic 46, 3) := by decide +kernel
theorem dX3_roadsAt_22 : decode cX3_roadsAt 22 = .ok (.ifCond .eq 9, 3) := by decide +kernel
theorem dX3_roadsAt_25 : decode cX3_roadsAt 25 = .ok (.iload_n 2, 1) := by decide +kernel
theorem dX3_roadsAt_26 : decode cX3_roadsAt 26 = .ok (.iconst 1, 1) := by decide +kernel
theorem dX3_roadsAt_27 : decode cX3_roadsAt 27 = .ok (.iload_n 3, 1) := by decide +kernel
theorem dX3_roadsAt_28 : decode cX3_roadsAt 28 = .ok (.ishl, 1) := by decide +kernel
theorem dX3_roadsAt_29 : decode cX3_roadsAt 29 = .ok (.ior, 1) := by decide +kernel
theorem dX3_roadsAt_30 : decode cX3_roadsAt 30 = .ok (.istore_n 2, 1) := by decide +kernel
theorem dX3_roadsAt_31 : decode cX3_roadsAt 31 = .ok (.iinc 3 1, 3) := by decide +kernel
theorem dX3_roadsAt_34 : decode cX3_roadsAt 34 = .ok (.goto (-30), 3) := by decide +kernel
theorem dX3_roadsAt_37 : decode cX3_roadsAt 37 = .ok (.iload_n 2, 1) := by decide +kernel
theorem dX3_roadsAt_38 : decode cX3_roadsAt 38 = .ok (.ireturn, 1) := by decide +kernel
theorem dX3_roadsWithin_0 : decode cX3_roadsWithin 0 = .ok (.iconst 0, 1) := by decide +kernel
theorem dX3_roadsWithin_1 : decode cX3_roadsWithin 1 = .ok (.istore_n 2, 1) := by decide +kernel
theorem dX3_roadsWithin_2 : decode cX3_roadsWithin 2 = .ok (.iconst 0, 1) := by decide +kernel
theorem dX3_roadsWithin_3 : decode cX3_roadsWithin 3 = .ok (.istore_n 3, 1) := by decide +kernel
theorem dX3_roadsWithin_4 : decode cX3_roadsWithin 4 = .ok (.iload_n 3, 1) := by decide +kernel
theorem dX3_roadsWithin_5 : decode cX3_roadsWithin 5 = .ok (.aload_n 0, 1) := by decide +kernel
theorem dX3_roadsWithin_6 : decode cX3_roadsWithin 6 = .ok (.getfield 15, 3) := by decide +kernel
theorem dX3_roadsWithin_9 : decode cX3_roadsWithin 9 = .ok (.if_icmp .ge 28, 3) := by decide +kernel
theorem dX3_roadsWithin_12 : decode cX3_roadsWithin 12 = .ok (.aload_n 0, 1) := by decide +kernel
theorem dX3_roadsWithin_13 : decode cX3_roadsWithin 13 = .ok (.getfield 28, 3) := by decide +kernel
theorem dX3_roadsWithin_16 : decode cX3_roadsWithin 16 = .ok (.iload_n 3, 1) := by decide +kernel
theorem dX3_roadsWithin_17 : decode cX3_roadsWithin 17 = .ok (.iaload, 1) := by decide +kernel
theorem dX3_roadsWithin_18 : decode cX3_roadsWithin 18 = .ok (.iload_n 1, 1) := by decide +kernel
theorem dX3_roadsWithin_19 : decode cX3_roadsWithin 19 = .ok (.iconst (-1), 1) := by decide +kernel
theorem dX3_roadsWithin_20 : decode cX3_roadsWithin 20 = .ok (.ixor, 1) := by decide +kernel
theorem dX3_roadsWithin_21 : decode cX3_roadsWithin 21 = .ok (.iand, 1) := by decide +kernel
theorem dX3_roadsWithin_22 : decode cX3_roadsWithin 22 = .ok (.ifCond .ne 9, 3) := by decide +kernel
theorem dX3_roadsWithin_25 : decode cX3_roadsWithin 25 = .ok (.iload_n 2, 1) := by decide +kernel
theorem dX3_roadsWithin_26 : decode cX3_roadsWithin 26 = .ok (.iconst 1, 1) := by decide +kernel
theorem dX3_roadsWithin_27 : decode cX3_roadsWithin 27 = .ok (.iload_n 3, 1) := by decide +kernel
theorem dX3_roadsWithin_28 : decode cX3_roadsWithin 28 = .ok (.ishl, 1) := by decide +kernel
theorem dX3_roadsWithin_29 : decode cX3_roadsWithin 29 = .ok (.ior, 1) := by decide +kernel
theorem dX3_roadsWithin_30 : decode cX3_roadsWithin 30 = .ok (.istore_n 2, 1) := by decide +kernel
theorem dX3_roadsWithin_31 : decode cX3_roadsWithin 31 = .ok (.iinc 3 1, 3) := by decide +kernel
theorem dX3_roadsWithin_34 : decode cX3_roadsWithin 34 = .ok (.goto (-30), 3) := by decide +kernel
theorem dX3_roadsWithin_37 : decode cX3_roadsWithin 37 = .ok (.iload_n 2, 1) := by decide +kernel
theorem dX3_roadsWithin_38 : decode cX3_roadsWithin 38 = .ok (.ireturn, 1) := by decide +kernel
theorem dX3_lengthOf_0 : decode cX3_lengthOf 0 = .ok (.iconst 0, 1) := by decide +kernel
theorem dX3_lengthOf_1 : decode cX3_lengthOf 1 = .ok (.istore_n 2, 1) := by decide +kernel
theorem dX3_lengthOf_2 : decode cX3_lengthOf 2 = .ok (.iconst 0, 1) := by decide +kernel
theorem dX3_lengthOf_3 : decode cX3_lengthOf 3 = .ok (.istore_n 3, 1) := by decide +kernel
theorem dX3_lengthOf_4 : decode cX3_lengthOf 4 = .ok (.iload_n 3, 1) := by decide +kernel
theorem dX3_lengthOf_5 : decode cX3_lengthOf 5 = .ok (.aload_n 0, 1) := by decide +kernel
theorem dX3_lengthOf_6 : decode cX3_lengthOf 6 = .ok (.getfield 15, 3) := by decide +kernel
theorem dX3_lengthOf_9 : decode cX3_lengthOf 9 = .ok (.if_icmp .ge 26, 3) := by decide +kernel
theorem dX3_lengthOf_12 : decode cX3_lengthOf 12 = .ok (.iload_n 1, 1) := by decide +kernel
theorem dX3_lengthOf_13 : decode cX3_lengthOf 13 = .ok (.iload_n 3, 1) := by decide +kernel
theorem dX3_lengthOf_14 : decode cX3_lengthOf 14 = .ok (.invokestatic 46, 3) := by decide +kernel
theorem dX3_lengthOf_17 : decode cX3_lengthOf 17 = .ok (.ifCond .eq 12, 3) := by decide +kernel
theorem dX3_lengthOf_20 : decode cX3_lengthOf 20 = .ok (.iload_n 2, 1) := by decide +kernel
theorem dX3_lengthOf_21 : decode cX3_lengthOf 21 = .ok (.aload_n 0, 1) := by decide +kernel
theorem dX3_lengthOf_22 : decode cX3_lengthOf 22 = .ok (.getfield 25, 3) := by decide +kernel
theorem dX3_lengthOf_25 : decode cX3_lengthOf 25 = .ok (.iload_n 3, 1) := by decide +kernel
theorem dX3_lengthOf_26 : decode cX3_lengthOf 26 = .ok (.iaload, 1) := by decide +kernel
theorem dX3_lengthOf_27 : decode cX3_lengthOf 27 = .ok (.iadd, 1) := by decide +kernel
theorem dX3_lengthOf_28 : decode cX3_lengthOf 28 = .ok (.istore_n 2, 1) := by decide +kernel
theorem dX3_lengthOf_29 : decode cX3_lengthOf 29 = .ok (.iinc 3 1, 3) := by decide +kernel
theorem dX3_lengthOf_32 : decode cX3_lengthOf 32 = .ok (.goto (-28), 3) := by decide +kernel
theorem dX3_lengthOf_35 : decode cX3_lengthOf 35 = .ok (.iload_n 2, 1) := by decide +kernel
theorem dX3_lengthOf_36 : decode cX3_lengthOf 36 = .ok (.ireturn, 1) := by decide +kernel
theorem dX3_oneRoadFurther_0 : decode cX3_oneRoadFurther 0 = .ok (.iload_n 1, 1) := by decide +kernel
theorem dX3_oneRoadFurther_1 : decode cX3_oneRoadFurther 1 = .ok (.istore_n 3, 1) := by decide +kernel
theorem dX3_oneRoadFurther_2 : decode cX3_oneRoadFurther 2 = .ok (.iconst 0, 1) := by decide +kernel
theorem dX3_oneRoadFurther_3 : decode cX3_oneRoadFurther 3 = .ok (.istore 4, 2) := by decide +kernel
theorem dX3_oneRoadFurther_5 : decode cX3_oneRoadFurther 5 = .ok (.iload 4, 2) := by decide +kernel
theorem dX3_oneRoadFurther_7 : decode cX3_oneRoadFurther 7 = .ok (.aload_n 0, 1) := by decide +kernel
theorem dX3_oneRoadFurther_8 : decode cX3_oneRoadFurther 8 = .ok (.getfield 15, 3) := by decide +kernel
theorem dX3_oneRoadFurther_11 : decode cX3_oneRoadFurther 11 = .ok (.if_icmp .ge 40, 3) := by decide +kernel
theorem dX3_oneRoadFurther_14 : decode cX3_oneRoadFurther 14 = .ok (.iload_n 2, 1) := by decide +kernel
theorem dX3_oneRoadFurther_15 : decode cX3_oneRoadFurther 15 = .ok (.iload 4, 2) := by decide +kernel
theorem dX3_oneRoadFurther_17 : decode cX3_oneRoadFurther 17 = .ok (.invokestatic 46, 3) := by decide +kernel
theorem dX3_oneRoadFurther_20 : decode cX3_oneRoadFurther 20 = .ok (.ifCond .eq 25, 3) := by decide +kernel
theorem dX3_oneRoadFurther_23 : decode cX3_oneRoadFurther 23 = .ok (.aload_n 0, 1) := by decide +kernel
theorem dX3_oneRoadFurther_24 : decode cX3_oneRoadFurther 24 = .ok (.getfield 28, 3) := by decide +kernel
theorem dX3_oneRoadFurther_27 : decode cX3_oneRoadFurther 27 = .ok (.iload 4, 2) := by decide +kernel
theorem dX3_oneRoadFurther_29 : decode cX3_oneRoadFurther 29 = .ok (.iaload, 1) := by decide +kernel
theorem dX3_oneRoadFurther_30 : decode cX3_oneRoadFurther 30 = .ok (.iload_n 1, 1) := by decide +kernel
theorem dX3_oneRoadFurther_31 : decode cX3_oneRoadFurther 31 = .ok (.iand, 1) := by decide +kernel
theorem dX3_oneRoadFurther_32 : decode cX3_oneRoadFurther 32 = .ok (.ifCond .eq 13, 3) := by decide +kernel
theorem dX3_oneRoadFurther_35 : decode cX3_oneRoadFurther 35 = .ok (.iload_n 3, 1) := by decide +kernel
theorem dX3_oneRoadFurther_36 : decode cX3_oneRoadFurther 36 = .ok (.aload_n 0, 1) := by decide +kernel
theorem dX3_oneRoadFurther_37 : decode cX3_oneRoadFurther 37 = .ok (.getfield 28, 3) := by decide +kernel
theorem dX3_oneRoadFurther_40 : decode cX3_oneRoadFurther 40 = .ok (.iload 4, 2) := by decide +kernel
theorem dX3_oneRoadFurther_42 : decode cX3_oneRoadFurther 42 = .ok (.iaload, 1) := by decide +kernel
theorem dX3_oneRoadFurther_43 : decode cX3_oneRoadFurther 43 = .ok (.ior, 1) := by decide +kernel
theorem dX3_oneRoadFurther_44 : decode cX3_oneRoadFurther 44 = .ok (.istore_n 3, 1) := by decide +kernel
theorem dX3_oneRoadFurther_45 : decode cX3_oneRoadFurther 45 = .ok (.iinc 4 1, 3) := by decide +kernel
theorem dX3_oneRoadFurther_48 : decode cX3_oneRoadFurther 48 = .ok (.goto (-43), 3) := by decide +kernel
theorem dX3_oneRoadFurther_51 : decode cX3_oneRoadFurther 51 = .ok (.iload_n 3, 1) := by decide +kernel
theorem dX3_oneRoadFurther_52 : decode cX3_oneRoadFurther 52 = .ok (.ireturn, 1) := by decide +kernel
theorem dX3_reach_0 : decode cX3_reach 0 = .ok (.iconst 1, 1) := by decide +kernel
theorem dX3_reach_1 : decode cX3_reach 1 = .ok (.iload_n 1, 1) := by decide +kernel
theorem dX3_reach_2 : decode cX3_reach 2 = .ok (.ishl, 1) := by decide +kernel
theorem dX3_reach_3 : decode cX3_reach 3 = .ok (.istore_n 3, 1) := by decide +kernel
theorem dX3_reach_4 : decode cX3_reach 4 = .ok (.iconst 0, 1) := by decide +kernel
theorem dX3_reach_5 : decode cX3_reach 5 = .ok (.istore 4, 2) := by decide +kernel
theorem dX3_reach_7 : decode cX3_reach 7 = .ok (.iconst 0, 1) := by decide +kernel
theorem dX3_reach_8 : decode cX3_reach 8 = .ok (.istore 5, 2) := by decide +kernel
theorem dX3_reach_10 : decode cX3_reach 10 = .ok (.iload 5, 2) := by decide +kernel
theorem dX3_reach_12 : decode cX3_reach 12 = .ok (.bipush 16, 2) := by decide +kernel
theorem dX3_reach_14 : decode cX3_reach 14 = .ok (.if_icmp .ge 67, 3) := by decide +kernel
theorem dX3_reach_17 : decode cX3_reach 17 = .ok (.iload_n 3, 1) := by decide +kernel
theorem dX3_reach_18 : decode cX3_reach 18 = .ok (.iload 4, 2) := by decide +kernel
theorem dX3_reach_20 : decode cX3_reach 20 = .ok (.if_icmp .eq 61, 3) := by decide +kernel
theorem dX3_reach_23 : decode cX3_reach 23 = .ok (.iload_n 3, 1) := by decide +kernel
theorem dX3_reach_24 : decode cX3_reach 24 = .ok (.istore 4, 2) := by decide +kernel
theorem dX3_reach_26 : decode cX3_reach 26 = .ok (.iconst 0, 1) := by decide +kernel
theorem dX3_reach_27 : decode cX3_reach 27 = .ok (.istore 6, 2) := by decide +kernel
theorem dX3_reach_29 : decode cX3_reach 29 = .ok (.iload 6, 2) := by decide +kernel
theorem dX3_reach_31 : decode cX3_reach 31 = .ok (.aload_n 0, 1) := by decide +kernel
theorem dX3_reach_32 : decode cX3_reach 32 = .ok (.getfield 15, 3) := by decide +kernel
theorem dX3_reach_35 : decode cX3_reach 35 = .ok (.if_icmp .ge 40, 3) := by decide +kernel
theorem dX3_reach_38 : decode cX3_reach 38 = .ok (.iload_n 2, 1) := by decide +kernel
theorem dX3_reach_39 : decode cX3_reach 39 = .ok (.iload 6, 2) := by decide +kernel
theorem dX3_reach_41 : decode cX3_reach 41 = .ok (.invokestatic 46, 3) := by decide +kernel
theorem dX3_reach_44 : decode cX3_reach 44 = .ok (.ifCond .eq 25, 3) := by decide +kernel
theorem dX3_reach_47 : decode cX3_reach 47 = .ok (.aload_n 0, 1) := by decide +kernel
theorem dX3_reach_48 : decode cX3_reach 48 = .ok (.getfield 28, 3) := by decide +kernel
theorem dX3_reach_51 : decode cX3_reach 51 = .ok (.iload 6, 2) := by decide +kernel
theorem dX3_reach_53 : decode cX3_reach 53 = .ok (.iaload, 1) := by decide +kernel
theorem dX3_reach_54 : decode cX3_reach 54 = .ok (.iload_n 3, 1) := by decide +kernel
theorem dX3_reach_55 : decode cX3_reach 55 = .ok (.iand, 1) := by decide +kernel
theorem dX3_reach_56 : decode cX3_reach 56 = .ok (.ifCond .eq 13, 3) := by decide +kernel
theorem dX3_reach_59 : decode cX3_reach 59 = .ok (.iload_n 3, 1) := by decide +kernel
theorem dX3_reach_60 : decode cX3_reach 60 = .ok (.aload_n 0, 1) := by decide +kernel
theorem dX3_reach_61 : decode cX3_reach 61 = .ok (.getfield 28, 3) := by decide +kernel
theorem dX3_reach_64 : decode cX3_reach 64 = .ok (.iload 6, 2) := by decide +kernel
theorem dX3_reach_66 : decode cX3_reach 66 = .ok (.iaload, 1) := by decide +kernel
theorem dX3_reach_67 : decode cX3_reach 67 = .ok (.ior, 1) := by decide +kernel
theorem dX3_reach_68 : decode cX3_reach 68 = .ok (.istore_n 3, 1) := by decide +kernel
theorem dX3_reach_69 : decode cX3_reach 69 = .ok (.iinc 6 1, 3) := by decide +kernel
theorem dX3_reach_72 : decode cX3_reach 72 = .ok (.goto (-43), 3) := by decide +kernel
theorem dX3_reach_75 : decode cX3_reach 75 = .ok (.iinc 5 1, 3) := by decide +kernel
theorem dX3_reach_78 : decode cX3_reach 78 = .ok (.goto (-68), 3) := by decide +kernel
theorem dX3_reach_81 : decode cX3_reach 81 = .ok (.iload_n 3, 1) := by decide +kernel
theorem dX3_reach_82 : decode cX3_reach 82 = .ok (.ireturn, 1) := by decide +kernel
theorem dX4_init_0 : decode cX4_init 0 = .ok (.aload_n 0, 1) := by decide +kernel
theorem dX4_init_1 : decode cX4_init 1 = .ok (.invokespecial 1, 3) := by decide +kernel
theorem dX4_init_4 : decode cX4_init 4 = .ok (.aload_n 0, 1) := by decide +kernel
theorem dX4_init_5 : decode cX4_init 5 = .ok (.new 7, 3) := by decide +kernel
theorem dX4_init_8 : decode cX4_init 8 = .ok (.dup, 1) := by decide +kernel
theorem dX4_init_9 : decode cX4_init 9 = .ok (.invokespecial 9, 3) := by decide +kernel
theorem dX4_init_12 : decode cX4_init 12 = .ok (.putfield 10, 3) := by decide +kernel
theorem dX4_init_15 : decode cX4_init 15 = .ok (.aload_n 0, 1) := by decide +kernel
theorem dX4_init_16 : decode cX4_init 16 = .ok (.new 16, 3) := by decide +kernel
theorem dX4_init_19 : decode cX4_init 19 = .ok (.dup, 1) := by decide +kernel
theorem dX4_init_20 : decode cX4_init 20 = .ok (.aload_n 0, 1) := by decide +kernel
theorem dX4_init_21 : decode cX4_init 21 = .ok (.getfield 10, 3) := by decide +kernel
theorem dX4_init_24 : decode cX4_init 24 = .ok (.invokespecial 18, 3) := by decide +kernel
theorem dX4_init_27 : decode cX4_init 27 = .ok (.putfield 21, 3) := by decide +kernel
theorem dX4_init_30 : decode cX4_init 30 = .ok (.aload_n 0, 1) := by decide +kernel
theorem dX4_init_31 : decode cX4_init 31 = .ok (.new 25, 3) := by decide +kernel
theorem dX4_init_34 : decode cX4_init 34 = .ok (.dup, 1) := by decide +kernel
theorem dX4_init_35 : decode cX4_init 35 = .ok (.invokespecial 27, 3) := by decide +kernel
theorem dX4_init_38 : decode cX4_init 38 = .ok (.putfield 28, 3) := by decide +kernel
theorem dX4_init_41 : decode cX4_init 41 = .ok (.aload_n 0, 1) := by decide +kernel
theorem dX4_init_42 : decode cX4_init 42 = .ok (.new 32, 3) := by decide +kernel
theorem dX4_init_45 : decode cX4_init 45 = .ok (.dup, 1) := by decide +kernel
theorem dX4_init_46 : decode cX4_init 46 = .ok (.invokespecial 34, 3) := by decide +kernel
theorem dX4_init_49 : decode cX4_init 49 = .ok (.putfield 35, 3) := by decide +kernel
theorem dX4_init_52 : decode cX4_init 52 = .ok (.aload_n 0, 1) := by decide +kernel
theorem dX4_init_53 : decode cX4_init 53 = .ok (.iconst 2, 1) := by decide +kernel
theorem dX4_init_54 : decode cX4_init 54 = .ok (.anewarray 7, 3) := by decide +kernel
theorem dX4_init_57 : decode cX4_init 57 = .ok (.putfield 39, 3) := by decide +kernel
theorem dX4_init_60 : decode cX4_init 60 = .ok (.iconst 0, 1) := by decide +kernel
theorem dX4_init_61 : decode cX4_init 61 = .ok (.istore_n 1, 1) := by decide +kernel
theorem dX4_init_62 : decode cX4_init 62 = .ok (.iload_n 1, 1) := by decide +kernel
theorem dX4_init_63 : decode cX4_init 63 = .ok (.iconst 2, 1) := by decide +kernel
theorem dX4_init_64 : decode cX4_init 64 = .ok (.if_icmp .ge 22, 3) := by decide +kernel
theorem dX4_init_67 : decode cX4_init 67 = .ok (.aload_n 0, 1) := by decide +kernel
theorem dX4_init_68 : decode cX4_init 68 = .ok (.getfield 39, 3) := by decide +kernel
theorem dX4_init_71 : decode cX4_init 71 = .ok (.iload_n 1, 1) := by decide +kernel
theorem dX4_init_72 : decode cX4_init 72 = .ok (.new 7, 3) := by decide +kernel
theorem dX4_init_75 : decode cX4_init 75 = .ok (.dup, 1) := by decide +kernel
theorem dX4_init_76 : decode cX4_init 76 = .ok (.invokespecial 9, 3) := by decide +kernel
theorem dX4_init_79 : decode cX4_init 79 = .ok (.aastore, 1) := by decide +kernel
theorem dX4_init_80 : decode cX4_init 80 = .ok (.iinc 1 1, 3) := by decide +kernel
theorem dX4_init_83 : decode cX4_init 83 = .ok (.goto (-21), 3) := by decide +kernel
theorem dX4_init_86 : decode cX4_init 86 = .ok (.aload_n 0, 1) := by decide +kernel
theorem dX4_init_87 : decode cX4_init 87 = .ok (.iconst 2, 1) := by decide +kernel
theorem dX4_init_88 : decode cX4_init 88 = .ok (.newarray .boolean, 2) := by decide +kernel
theorem dX4_init_90 : decode cX4_init 90 = .ok (.putfield 43, 3) := by decide +kernel
theorem dX4_init_93 : decode cX4_init 93 = .ok (.return_, 1) := by decide +kernel
theorem dX4_squares_0 : decode cX4_squares 0 = .ok (.iload_n 1, 1) := by decide +kernel
theorem dX4_squares_1 : decode cX4_squares 1 = .ok (.iconst 2, 1) := by decide +kernel
theorem dX4_squares_2 : decode cX4_squares 2 = .ok (.if_icmp .lt 9, 3) := by decide +kernel
theorem dX4_squares_5 : decode cX4_squares 5 = .ok (.iload_n 1, 1) := by decide +kernel
theorem dX4_squares_6 : decode cX4_squares 6 = .ok (.bipush 16, 2) := by decide +kernel
theorem dX4_squares_8 : decode cX4_squares 8 = .ok (.if_icmp .le 6, 3) := by decide +kernel
theorem dX4_squares_11 : decode cX4_squares 11 = .ok (.bipush (-2), 2) := by decide +kernel
theorem dX4_squares_13 : decode cX4_squares 13 = .ok (.ireturn, 1) := by decide +kernel
theorem dX4_squares_14 : decode cX4_squares 14 = .ok (.aload_n 0, 1) := by decide +kernel
theorem dX4_squares_15 : decode cX4_squares 15 = .ok (.getfield 10, 3) := by decide +kernel
theorem dX4_squares_18 : decode cX4_squares 18 = .ok (.iload_n 1, 1) := by decide +kernel
theorem dX4_squares_19 : decode cX4_squares 19 = .ok (.invokevirtual 47, 3) := by decide +kernel
theorem dX4_squares_22 : decode cX4_squares 22 = .ok (.ifCond .ne 6, 3) := by decide +kernel
theorem dX4_squares_25 : decode cX4_squares 25 = .ok (.bipush (-5), 2) := by decide +kernel
theorem dX4_squares_27 : decode cX4_squares 27 = .ok (.ireturn, 1) := by decide +kernel
theorem dX4_squares_28 : decode cX4_squares 28 = .ok (.aload_n 0, 1) := by decide +kernel
theorem dX4_squares_29 : decode cX4_squares 29 = .ok (.getfield 10, 3) := by decide +kernel
theorem dX4_squares_32 : decode cX4_squares 32 = .ok (.getfield 51, 3) := by decide +kernel
theorem dX4_squares_35 : decode cX4_squares 35 = .ok (.istore_n 2, 1) := by decide +kernel
theorem dX4_squares_36 : decode cX4_squares 36 = .ok (.aload_n 0, 1) := by decide +kernel
theorem dX4_squares_37 : decode cX4_squares 37 = .ok (.getfield 35, 3) := by decide +kernel
theorem dX4_squares_40 : decode cX4_squares 40 = .ok (.aload_n 0, 1) := by decide +kernel
theorem dX4_squares_41 : decode cX4_squares 41 = .ok (.getfield 10, 3) := by decide +kernel
theorem dX4_squares_44 : decode cX4_squares 44 = .ok (.invokevirtual 55, 3) := by decide +kernel
theorem dX4_squares_47 : decode cX4_squares 47 = .ok (.aload_n 0, 1) := by decide +kernel
theorem dX4_squares_48 : decode cX4_squares 48 = .ok (.getfield 10, 3) := by decide +kernel
theorem dX4_squares_51 : decode cX4_squares 51 = .ok (.iload_n 1, 1) := by decide +kernel
theorem dX4_squares_52 : decode cX4_squares 52 = .ok (.putfield 51, 3) := by decide +kernel
theorem dX4_squares_55 : decode cX4_squares 55 = .ok (.aload_n 0, 1) := by decide +kernel
theorem dX4_squares_56 : decode cX4_squares 56 = .ok (.getfield 21, 3) := by decide +kernel
theorem dX4_squares_59 : decode cX4_squares 59 = .ok (.invokevirtual 58, 3) := by decide +kernel
theorem dX4_squares_62 : decode cX4_squares 62 = .ok (.iload_n 2, 1) := by decide +kernel
theorem dX4_squares_63 : decode cX4_squares 63 = .ok (.ireturn, 1) := by decide +kernel
theorem dX4_build_0 : decode cX4_build 0 = .ok (.aload_n 0, 1) := by decide +kernel
theorem dX4_build_1 : decode cX4_build 1 = .ok (.getfield 10, 3) := by decide +kernel
theorem dX4_build_4 : decode cX4_build 4 = .ok (.iload_n 1, 1) := by decide +kernel
theorem dX4_build_5 : decode cX4_build 5 = .ok (.invokevirtual 61, 3) := by decide +kernel
theorem dX4_build_8 : decode cX4_build 8 = .ok (.ifCond .eq 14, 3) := by decide +kernel
theorem dX4_build_11 : decode cX4_build 11 = .ok (.aload_n 0, 1) := by decide +kernel
theorem dX4_build_12 : decode cX4_build 12 = .ok (.getfield 10, 3) := by decide +kernel
theorem dX4_build_15 : decode cX4_build 15 = .ok (.iload_n 2, 1) := by decide +kernel
theorem dX4_build_16 : decode cX4_build 16 = .ok (.invokevirtual 61, 3) := by decide +kernel
theorem dX4_build_19 : decode cX4_build 19 = .ok (.ifCond .ne 5, 3) := by decide +kernel
theorem dX4_build_22 : decode cX4_build 22 = .ok (.iconst (-1), 1) := by decide +kernel
theorem dX4_build_23 : decode cX4_build 23 = .ok (.ireturn, 1) := by decide +kernel
theorem dX4_build_24 : decode cX4_build 24 = .ok (.iload_n 1, 1) := by decide +kernel
theorem dX4_build_25 : decode cX4_build 25 = .ok (.iload_n 2, 1) := by decide +kernel
theorem dX4_build_26 : decode cX4_build 26 = .ok (.if_icmp .eq 14, 3) := by decide +kernel
theorem dX4_build_29 : decode cX4_build 29 = .ok (.iload_n 3, 1) := by decide +kernel
theorem dX4_build_30 : decode cX4_build 30 = .ok (.iconst 1, 1) := by decide +kernel
theorem dX4_build_31 : decode cX4_build 31 = .ok (.if_icmp .lt 9, 3) := by decide +kernel
theorem dX4_build_34 : decode cX4_build 34 = .ok (.iload_n 3, 1) := by decide +kernel
theorem dX4_build_35 : decode cX4_build 35 = .ok (.bipush 99, 2) := by decide +kernel
theorem dX4_build_37 : decode cX4_build 37 = .ok (.if_icmp .le 6, 3) := by decide +kernel
theorem dX4_build_40 : decode cX4_build 40 = .ok (.bipush (-2), 2) := by decide +kernel
theorem dX4_build_42 : decode cX4_build 42 = .ok (.ireturn, 1) := by decide +kernel
theorem dX4_build_43 : decode cX4_build 43 = .ok (.aload_n 0, 1) := by decide +kernel
theorem dX4_build_44 : decode cX4_build 44 = .ok (.getfield 10, 3) := by decide +kernel
theorem dX4_build_47 : decode cX4_build 47 = .ok (.getfield 64, 3) := by decide +kernel
theorem dX4_build_50 : decode cX4_build 50 = .ok (.bipush 30, 2) := by decide +kernel
theorem dX4_build_52 : decode cX4_build 52 = .ok (.if_icmp .lt 6, 3) := by decide +kernel
theorem dX4_build_55 : decode cX4_build 55 = .ok (.bipush (-4), 2) := by decide +kernel
theorem dX4_build_57 : decode cX4_build 57 = .ok (.ireturn, 1) := by decide +kernel
theorem dX4_build_58 : decode cX4_build 58 = .ok (.aload_n 0, 1) := by decide +kernel
theorem dX4_build_59 : decode cX4_build 59 = .ok (.getfield 35, 3) := by decide +kernel
theorem dX4_build_62 : decode cX4_build 62 = .ok (.aload_n 0, 1) := by decide +kernel
theorem dX4_build_63 : decode cX4_build 63 = .ok (.getfield 10, 3) := by decide +kernel
theorem dX4_build_66 : decode cX4_build 66 = .ok (.invokevirtual 55, 3) := by decide +kernel
theorem dX4_build_69 : decode cX4_build 69 = .ok (.aload_n 0, 1) := by decide +kernel
theorem dX4_build_70 : decode cX4_build 70 = .ok (.getfield 10, 3) := by decide +kernel
theorem dX4_build_73 : decode cX4_build 73 = .ok (.iload_n 1, 1) := by decide +kernel
theorem dX4_build_74 : decode cX4_build 74 = .ok (.iload_n 2, 1) := by decide +kernel
theorem dX4_build_75 : decode cX4_build 75 = .ok (.iload_n 3, 1) := by decide +kernel
theorem dX4_build_76 : decode cX4_build 76 = .ok (.invokevirtual 67, 3) := by decide +kernel
theorem dX4_build_79 : decode cX4_build 79 = .ok (.aload_n 0, 1) := by decide +kernel
theorem dX4_build_80 : decode cX4_build 80 = .ok (.getfield 21, 3) := by decide +kernel
theorem dX4_build_83 : decode cX4_build 83 = .ok (.invokevirtual 58, 3) := by decide +kernel
theorem dX4_build_86 : decode cX4_build 86 = .ok (.aload_n 0, 1) := by decide +kernel
theorem dX4_build_87 : decode cX4_build 87 = .ok (.getfield 21, 3) := by decide +kernel
theorem dX4_build_90 : decode cX4_build 90 = .ok (.getfield 71, 3) := by decide +kernel
theorem dX4_build_93 : decode cX4_build 93 = .ok (.ireturn, 1) := by decide +kernel
theorem dX4_lose_0 : decode cX4_lose 0 = .ok (.aload_n 0, 1) := by decide +kernel
theorem dX4_lose_1 : decode cX4_lose 1 = .ok (.getfield 10, 3) := by decide +kernel
theorem dX4_lose_4 : decode cX4_lose 4 = .ok (.iload_n 1, 1) := by decide +kernel
theorem dX4_lose_5 : decode cX4_lose 5 = .ok (.invokevirtual 74, 3) := by decide +kernel
theorem dX4_lose_8 : decode cX4_lose 8 = .ok (.ifCond .ne 5, 3) := by decide +kernel
theorem dX4_lose_11 : decode cX4_lose 11 = .ok (.iconst (-1), 1) := by decide +kernel
theorem dX4_lose_12 : decode cX4_lose 12 = .ok (.ireturn, 1) := by decide +kernel
theorem dX4_lose_13 : decode cX4_lose 13 = .ok (.aload_n 0, 1) := by decide +kernel
theorem dX4_lose_14 : decode cX4_lose 14 = .ok (.getfield 35, 3) := by decide +kernel
theorem dX4_lose_17 : decode cX4_lose 17 = .ok (.aload_n 0, 1) := by decide +kernel
theorem dX4_lose_18 : decode cX4_lose 18 = .ok (.getfield 10, 3) := by decide +kernel
theorem dX4_lose_21 : decode cX4_lose 21 = .ok (.invokevirtual 55, 3) := by decide +kernel
theorem dX4_lose_24 : decode cX4_lose 24 = .ok (.aload_n 0, 1) := by decide +kernel
theorem dX4_lose_25 : decode cX4_lose 25 = .ok (.getfield 10, 3) := by decide +kernel
theorem dX4_lose_28 : decode cX4_lose 28 = .ok (.iload_n 1, 1) := by decide +kernel
theorem dX4_lose_29 : decode cX4_lose 29 = .ok (.invokevirtual 77, 3) := by decide +kernel
theorem dX4_lose_32 : decode cX4_lose 32 = .ok (.aload_n 0, 1) := by decide +kernel
theorem dX4_lose_33 : decode cX4_lose 33 = .ok (.getfield 21, 3) := by decide +kernel
theorem dX4_lose_36 : decode cX4_lose 36 = .ok (.invokevirtual 58, 3) := by decide +kernel
theorem dX4_lose_39 : decode cX4_lose 39 = .ok (.aload_n 0, 1) := by decide +kernel
theorem dX4_lose_40 : decode cX4_lose 40 = .ok (.getfield 21, 3) := by decide +kernel
theorem dX4_lose_43 : decode cX4_lose 43 = .ok (.getfield 71, 3) := by decide +kernel
theorem dX4_lose_46 : decode cX4_lose 46 = .ok (.ireturn, 1) := by decide +kernel
theorem dX4_road_0 : decode cX4_road 0 = .ok (.aload_n 0, 1) := by decide +kernel
theorem dX4_road_1 : decode cX4_road 1 = .ok (.getfield 10, 3) := by decide +kernel
theorem dX4_road_4 : decode cX4_road 4 = .ok (.iload_n 1, 1) := by decide +kernel
theorem dX4_road_5 : decode cX4_road 5 = .ok (.invokevirtual 74, 3) := by decide +kernel
theorem dX4_road_8 : decode cX4_road 8 = .ok (.ifCond .ne 5, 3) := by decide +kernel
theorem dX4_road_11 : decode cX4_road 11 = .ok (.iconst (-1), 1) := by decide +kernel
theorem dX4_road_12 : decode cX4_road 12 = .ok (.ireturn, 1) := by decide +kernel
theorem dX4_road_13 : decode cX4_road 13 = .ok (.iload_n 2, 1) := by decide +kernel
theorem dX4_road_14 : decode cX4_road 14 = .ok (.tableswitch 106 0 5 #[38, 48, 58, 68, 88, 97], 38) := by decide +kernel
theorem dX4_road_52 : decode cX4_road 52 = .ok (.aload_n 0, 1) := by decide +kernel
theorem dX4_road_53 : decode cX4_road 53 = .ok (.getfield 10, 3) := by decide +kernel
theorem dX4_road_56 : decode cX4_road 56 = .ok (.getfield 104, 3) := by decide +kernel
theorem dX4_road_59 : decode cX4_road 59 = .ok (.iload_n 1, 1) := by decide +kernel
theorem dX4_road_60 : decode cX4_road 60 = .ok (.iaload, 1) := by decide +kernel
theorem dX4_road_61 : decode cX4_road 61 = .ok (.ireturn, 1) := by decide +kernel
theorem dX4_road_62 : decode cX4_road 62 = .ok (.aload_n 0, 1) := by decide +kernel
theorem dX4_road_63 : decode cX4_road 63 = .ok (.getfield 10, 3) := by decide +kernel
theorem dX4_road_66 : decode cX4_road 66 = .ok (.getfield 108, 3) := by decide +kernel
theorem dX4_road_69 : decode cX4_road 69 = .ok (.iload_n 1, 1) := by decide +kernel
theorem dX4_road_70 : decode cX4_road 70 = .ok (.iaload, 1) := by decide +kernel
theorem dX4_road_71 : decode cX4_road 71 = .ok (.ireturn, 1) := by decide +kernel
theorem dX4_road_72 : decode cX4_road 72 = .ok (.aload_n 0, 1) := by decide +kernel
theorem dX4_road_73 : decode cX4_road 73 = .ok (.getfield 10, 3) := by decide +kernel
theorem dX4_road_76 : decode cX4_road 76 = .ok (.getfield 111, 3) := by decide +kernel
theorem dX4_road_79 : decode cX4_road 79 = .ok (.iload_n 1, 1) := by decide +kernel
theorem dX4_road_80 : decode cX4_road 80 = .ok (.iaload, 1) := by decide +kernel
theorem dX4_road_81 : decode cX4_road 81 = .ok (.ireturn, 1) := by decide +kernel
theorem dX4_road_82 : decode cX4_road 82 = .ok (.aload_n 0, 1) := by decide +kernel
theorem dX4_road_83 : decode cX4_road 83 = .ok (.getfield 21, 3) := by decide +kernel
theorem dX4_road_86 : decode cX4_road 86 = .ok (.getfield 114, 3) := by decide +kernel
theorem dX4_road_89 : decode cX4_road 89 = .ok (.iload_n 1, 1) := by decide +kernel
theorem dX4_road_90 : decode cX4_road 90 = .ok (.invokestatic 117, 3) := by decide +kernel
theorem dX4_road_93 : decode cX4_road 93 = .ok (.ifCond .eq 7, 3) := by decide +kernel
theorem dX4_road_96 : decode cX4_road 96 = .ok (.iconst 1, 1) := by decide +kernel
theorem dX4_road_97 : decode cX4_road 97 = .ok (.goto 4, 3) := by decide +kernel
theorem dX4_road_100 : decode cX4_road 100 = .ok (.iconst 0, 1) := by decide +kernel
theorem dX4_road_101 : decode cX4_road 101 = .ok (.ireturn, 1) := by decide +kernel
theorem dX4_road_102 : decode cX4_road 102 = .ok (.aload_n 0, 1) := by decide +kernel
theorem dX4_road_103 : decode cX4_road 103 = .ok (.getfield 21, 3) := by decide +kernel
theorem dX4_road_106 : decode cX4_road 106 = .ok (.iload_n 1, 1) := by decide +kernel
theorem dX4_road_107 : decode cX4_road 107 = .ok (.invokevirtual 121, 3) := by decide +kernel
theorem dX4_road_110 : decode cX4_road 110 = .ok (.ireturn, 1) := by decide +kernel
theorem dX4_road_111 : decode cX4_road 111 = .ok (.aload_n 0, 1) := by decide +kernel
theorem dX4_road_112 : decode cX4_road 112 = .ok (.getfield 21, 3) := by decide +kernel
theorem dX4_road_115 : decode cX4_road 115 = .ok (.iload_n 1, 1) := by decide +kernel
theorem dX4_road_116 : decode cX4_road 116 = .ok (.invokevirtual 124, 3) := by decide +kernel
theorem dX4_road_119 : decode cX4_road 119 = .ok (.ireturn, 1) := by decide +kernel
theorem dX4_road_120 : decode cX4_road 120 = .ok (.bipush (-2), 2) := by decide +kernel
theorem dX4_road_122 : decode cX4_road 122 = .ok (.ireturn, 1) := by decide +kernel
theorem dX4_square_0 : decode cX4_square 0 = .ok (.aload_n 0, 1) := by decide +kernel
theorem dX4_square_1 : decode cX4_square 1 = .ok (.getfield 10, 3) := by decide +kernel
theorem dX4_square_4 : decode cX4_square 4 = .ok (.iload_n 1, 1) := by decide +kernel
theorem dX4_square_5 : decode cX4_square 5 = .ok (.invokevirtual 61, 3) := by decide +kernel
theorem dX4_square_8 : decode cX4_square 8 = .ok (.ifCond .ne 5, 3) := by decide +kernel
theorem dX4_square_11 : decode cX4_square 11 = .ok (.iconst (-1), 1) := by decide +kernel
theorem dX4_square_12 : decode cX4_square 12 = .ok (.ireturn, 1) := by decide +kernel
theorem dX4_square_13 : decode cX4_square 13 = .ok (.iload_n 2, 1) := by decide +kernel
theorem dX4_square_14 : decode cX4_square 14 = .ok (.tableswitch 92 0 4 #[34, 46, 63, 73, 83], 34) := by decide +kernel
theorem dX4_square_48 : decode cX4_square 48 = .ok (.aload_n 0, 1) := by decide +kernel
theorem dX4_square_49 : decode cX4_square 49 = .ok (.getfield 10, 3) := by decide +kernel
theorem dX4_square_52 : decode cX4_square 52 = .ok (.iload_n 1, 1) := by decide +kernel
theorem dX4_square_53 : decode cX4_square 53 = .ok (.invokevirtual 127, 3) := by decide +kernel
theorem dX4_square_56 : decode cX4_square 56 = .ok (.invokestatic 130, 3) := by decide +kernel
theorem dX4_square_59 : decode cX4_square 59 = .ok (.ireturn, 1) := by decide +kernel
theorem dX4_square_60 : decode cX4_square 60 = .ok (.aload_n 0, 1) := by decide +kernel
theorem dX4_square_61 : decode cX4_square 61 = .ok (.getfield 21, 3) := by decide +kernel
theorem dX4_square_64 : decode cX4_square 64 = .ok (.iload_n 1, 1) := by decide +kernel
theorem dX4_square_65 : decode cX4_square 65 = .ok (.invokevirtual 135, 3) := by decide +kernel
theorem dX4_square_68 : decode cX4_square 68 = .ok (.ifCond .le 7, 3) := by decide +kernel
theorem dX4_square_71 : decode cX4_square 71 = .ok (.iconst 1, 1) := by decide +kernel
theorem dX4_square_72 : decode cX4_square 72 = .ok (.goto 4, 3) := by decide +kernel
theorem dX4_square_75 : decode cX4_square 75 = .ok (.iconst 0, 1) := by decide +kernel
theorem dX4_square_76 : decode cX4_square 76 = .ok (.ireturn, 1) := by decide +kernel
theorem dX4_square_77 : decode cX4_square 77 = .ok (.aload_n 0, 1) := by decide +kernel
theorem dX4_square_78 : decode cX4_square 78 = .ok (.getfield 21, 3) := by decide +kernel
theorem dX4_square_81 : decode cX4_square 81 = .ok (.getfield 138, 3) := by decide +kernel
theorem dX4_square_84 : decode cX4_square 84 = .ok (.iload_n 1, 1) := by decide +kernel
theorem dX4_square_85 : decode cX4_square 85 = .ok (.iaload, 1) := by decide +kernel
theorem dX4_square_86 : decode cX4_square 86 = .ok (.ireturn, 1) := by decide +kernel
theorem dX4_square_87 : decode cX4_square 87 = .ok (.aload_n 0, 1) := by decide +kernel
theorem dX4_square_88 : decode cX4_square 88 = .ok (.getfield 21, 3) := by decide +kernel
theorem dX4_square_91 : decode cX4_square 91 = .ok (.getfield 141, 3) := by decide +kernel
theorem dX4_square_94 : decode cX4_square 94 = .ok (.iload_n 1, 1) := by decide +kernel
theorem dX4_square_95 : decode cX4_square 95 = .ok (.iaload, 1) := by decide +kernel
theorem dX4_square_96 : decode cX4_square 96 = .ok (.ireturn, 1) := by decide +kernel
theorem dX4_square_97 : decode cX4_square 97 = .ok (.aload_n 0, 1) := by decide +kernel
theorem dX4_square_98 : decode cX4_square 98 = .ok (.getfield 21, 3) := by decide +kernel
theorem dX4_square_101 : decode cX4_square 101 = .ok (.iload_n 1, 1) := by decide +kernel
theorem dX4_square_102 : decode cX4_square 102 = .ok (.invokevirtual 135, 3) := by decide +kernel
theorem dX4_square_105 : decode cX4_square 105 = .ok (.ireturn, 1) := by decide +kernel
theorem dX4_square_106 : decode cX4_square 106 = .ok (.bipush (-2), 2) := by decide +kernel
theorem dX4_square_108 : decode cX4_square 108 = .ok (.ireturn, 1) := by decide +kernel
theorem dX4_district_0 : decode cX4_district 0 = .ok (.iload_n 1, 1) := by decide +kernel
theorem dX4_district_1 : decode cX4_district 1 = .ok (.ifCond .lt 14, 3) := by decide +kernel
theorem dX4_district_4 : decode cX4_district 4 = .ok (.iload_n 1, 1) := by decide +kernel
theorem dX4_district_5 : decode cX4_district 5 = .ok (.aload_n 0, 1) := by decide +kernel
theorem dX4_district_6 : decode cX4_district 6 = .ok (.getfield 21, 3) := by decide +kernel
theorem dX4_district_9 : decode cX4_district 9 = .ok (.getfield 144, 3) := by decide +kernel
theorem dX4_district_12 : decode cX4_district 12 = .ok (.if_icmp .lt 5, 3) := by decide +kernel
theorem dX4_district_15 : decode cX4_district 15 = .ok (.iconst (-1), 1) := by decide +kernel
theorem dX4_district_16 : decode cX4_district 16 = .ok (.ireturn, 1) := by decide +kernel
theorem dX4_district_17 : decode cX4_district 17 = .ok (.aload_n 0, 1) := by decide +kernel
theorem dX4_district_18 : decode cX4_district 18 = .ok (.getfield 21, 3) := by decide +kernel
theorem dX4_district_21 : decode cX4_district 21 = .ok (.getfield 147, 3) := by decide +kernel
theorem dX4_district_24 : decode cX4_district 24 = .ok (.iload_n 1, 1) := by decide +kernel
theorem dX4_district_25 : decode cX4_district 25 = .ok (.iaload, 1) := by decide +kernel
theorem dX4_district_26 : decode cX4_district 26 = .ok (.istore_n 3, 1) := by decide +kernel
theorem dX4_district_27 : decode cX4_district 27 = .ok (.iload_n 2, 1) := by decide +kernel
theorem dX4_district_28 : decode cX4_district 28 = .ok (.tableswitch 78 0 3 #[32, 34, 50, 59], 32) := by decide +kernel
theorem dX4_district_60 : decode cX4_district 60 = .ok (.iload_n 3, 1) := by decide +kernel
theorem dX4_district_61 : decode cX4_district 61 = .ok (.ireturn, 1) := by decide +kernel
theorem dX4_district_62 : decode cX4_district 62 = .ok (.aload_n 0, 1) := by decide +kernel
theorem dX4_district_63 : decode cX4_district 63 = .ok (.getfield 10, 3) := by decide +kernel
theorem dX4_district_66 : decode cX4_district 66 = .ok (.aload_n 0, 1) := by decide +kernel
theorem dX4_district_67 : decode cX4_district 67 = .ok (.getfield 10, 3) := by decide +kernel
theorem dX4_district_70 : decode cX4_district 70 = .ok (.iload_n 3, 1) := by decide +kernel
theorem dX4_district_71 : decode cX4_district 71 = .ok (.invokevirtual 150, 3) := by decide +kernel
theorem dX4_district_74 : decode cX4_district 74 = .ok (.invokevirtual 153, 3) := by decide +kernel
theorem dX4_district_77 : decode cX4_district 77 = .ok (.ireturn, 1) := by decide +kernel
theorem dX4_district_78 : decode cX4_district 78 = .ok (.aload_n 0, 1) := by decide +kernel
theorem dX4_district_79 : decode cX4_district 79 = .ok (.getfield 21, 3) := by decide +kernel
theorem dX4_district_82 : decode cX4_district 82 = .ok (.iload_n 3, 1) := by decide +kernel
theorem dX4_district_83 : decode cX4_district 83 = .ok (.invokevirtual 156, 3) := by decide +kernel
theorem dX4_district_86 : decode cX4_district 86 = .ok (.ireturn, 1) := by decide +kernel
theorem dX4_district_87 : decode cX4_district 87 = .ok (.aload_n 0, 1) := by decide +kernel
theorem dX4_district_88 : decode cX4_district 88 = .ok (.getfield 10, 3) := by decide +kernel
theorem dX4_district_91 : decode cX4_district 91 = .ok (.iload_n 3, 1) := by decide +kernel
theorem dX4_district_92 : decode cX4_district 92 = .ok (.invokevirtual 150, 3) := by decide +kernel
theorem dX4_district_95 : decode cX4_district 95 = .ok (.invokestatic 130, 3) := by decide +kernel
theorem dX4_district_98 : decode cX4_district 98 = .ok (.iload_n 3, 1) := by decide +kernel
theorem dX4_district_99 : decode cX4_district 99 = .ok (.invokestatic 130, 3) := by decide +kernel
theorem dX4_district_102 : decode cX4_district 102 = .ok (.isub, 1) := by decide +kernel
theorem dX4_district_103 : decode cX4_district 103 = .ok (.iconst 1, 1) := by decide +kernel
theorem dX4_district_104 : decode cX4_district 104 = .ok (.iadd, 1) := by decide +kernel
theorem dX4_district_105 : decode cX4_district 105 = .ok (.ireturn, 1) := by decide +kernel
theorem dX4_district_106 : decode cX4_district 106 = .ok (.bipush (-2), 2) := by decide +kernel
theorem dX4_district_108 : decode cX4_district 108 = .ok (.ireturn, 1) := by decide +kernel
theorem dX4_count_0 : decode cX4_count 0 = .ok (.iload_n 1, 1) := by decide +kernel
theorem dX4_count_1 : decode cX4_count 1 = .ok (.tableswitch 145 0 9 #[55, 63, 71, 79, 90, 98, 106, 114, 129, 137], 55) := by decide +kernel
theorem dX4_count_56 : decode cX4_count 56 = .ok (.aload_n 0, 1) := by decide +kernel
theorem dX4_count_57 : decode cX4_count 57 = .ok (.getfield 10, 3) := by decide +kernel
theorem dX4_count_60 : decode cX4_count 60 = .ok (.getfield 51, 3) := by decide +kernel
theorem dX4_count_63 : decode cX4_count 63 = .ok (.ireturn, 1) := by decide +kernel
theorem dX4_count_64 : decode cX4_count 64 = .ok (.aload_n 0, 1) := by decide +kernel
theorem dX4_count_65 : decode cX4_count 65 = .ok (.getfield 10, 3) := by decide +kernel
theorem dX4_count_68 : decode cX4_count 68 = .ok (.getfield 64, 3) := by decide +kernel
theorem dX4_count_71 : decode cX4_count 71 = .ok (.ireturn, 1) := by decide +kernel
theorem dX4_count_72 : decode cX4_count 72 = .ok (.aload_n 0, 1) := by decide +kernel
theorem dX4_count_73 : decode cX4_count 73 = .ok (.getfield 21, 3) := by decide +kernel
theorem dX4_count_76 : decode cX4_count 76 = .ok (.getfield 71, 3) := by decide +kernel
theorem dX4_count_79 : decode cX4_count 79 = .ok (.ireturn, 1) := by decide +kernel
theorem dX4_count_80 : decode cX4_count 80 = .ok (.aload_n 0, 1) := by decide +kernel
theorem dX4_count_81 : decode cX4_count 81 = .ok (.getfield 21, 3) := by decide +kernel
theorem dX4_count_84 : decode cX4_count 84 = .ok (.getfield 114, 3) := by decide +kernel
theorem dX4_count_87 : decode cX4_count 87 = .ok (.invokestatic 130, 3) := by decide +kernel
theorem dX4_count_90 : decode cX4_count 90 = .ok (.ireturn, 1) := by decide +kernel
theorem dX4_count_91 : decode cX4_count 91 = .ok (.aload_n 0, 1) := by decide +kernel
theorem dX4_count_92 : decode cX4_count 92 = .ok (.getfield 21, 3) := by decide +kernel
theorem dX4_count_95 : decode cX4_count 95 = .ok (.invokevirtual 159, 3) := by decide +kernel
theorem dX4_count_98 : decode cX4_count 98 = .ok (.ireturn, 1) := by decide +kernel
theorem dX4_count_99 : decode cX4_count 99 = .ok (.aload_n 0, 1) := by decide +kernel
theorem dX4_count_100 : decode cX4_count 100 = .ok (.getfield 21, 3) := by decide +kernel
theorem dX4_count_103 : decode cX4_count 103 = .ok (.getfield 144, 3) := by decide +kernel
theorem dX4_count_106 : decode cX4_count 106 = .ok (.ireturn, 1) := by decide +kernel
theorem dX4_count_107 : decode cX4_count 107 = .ok (.aload_n 0, 1) := by decide +kernel
theorem dX4_count_108 : decode cX4_count 108 = .ok (.getfield 21, 3) := by decide +kernel
theorem dX4_count_111 : decode cX4_count 111 = .ok (.invokevirtual 162, 3) := by decide +kernel
theorem dX4_count_114 : decode cX4_count 114 = .ok (.ireturn, 1) := by decide +kernel
theorem dX4_count_115 : decode cX4_count 115 = .ok (.aload_n 0, 1) := by decide +kernel
theorem dX4_count_116 : decode cX4_count 116 = .ok (.getfield 10, 3) := by decide +kernel
theorem dX4_count_119 : decode cX4_count 119 = .ok (.aload_n 0, 1) := by decide +kernel
theorem dX4_count_120 : decode cX4_count 120 = .ok (.getfield 10, 3) := by decide +kernel
theorem dX4_count_123 : decode cX4_count 123 = .ok (.invokevirtual 165, 3) := by decide +kernel
theorem dX4_count_126 : decode cX4_count 126 = .ok (.invokevirtual 153, 3) := by decide +kernel
theorem dX4_count_129 : decode cX4_count 129 = .ok (.ireturn, 1) := by decide +kernel
theorem dX4_count_130 : decode cX4_count 130 = .ok (.aload_n 0, 1) := by decide +kernel
theorem dX4_count_131 : decode cX4_count 131 = .ok (.getfield 28, 3) := by decide +kernel
theorem dX4_count_134 : decode cX4_count 134 = .ok (.getfield 101, 3) := by decide +kernel
theorem dX4_count_137 : decode cX4_count 137 = .ok (.ireturn, 1) := by decide +kernel
theorem dX4_count_138 : decode cX4_count 138 = .ok (.aload_n 0, 1) := by decide +kernel
theorem dX4_count_139 : decode cX4_count 139 = .ok (.getfield 35, 3) := by decide +kernel
theorem dX4_count_142 : decode cX4_count 142 = .ok (.getfield 168, 3) := by decide +kernel
theorem dX4_count_145 : decode cX4_count 145 = .ok (.ireturn, 1) := by decide +kernel
theorem dX4_count_146 : decode cX4_count 146 = .ok (.bipush (-2), 2) := by decide +kernel
theorem dX4_count_148 : decode cX4_count 148 = .ok (.ireturn, 1) := by decide +kernel
theorem dX4_way_0 : decode cX4_way 0 = .ok (.aload_n 0, 1) := by decide +kernel
theorem dX4_way_1 : decode cX4_way 1 = .ok (.getfield 10, 3) := by decide +kernel
theorem dX4_way_4 : decode cX4_way 4 = .ok (.iload_n 1, 1) := by decide +kernel
theorem dX4_way_5 : decode cX4_way 5 = .ok (.invokevirtual 61, 3) := by decide +kernel
theorem dX4_way_8 : decode cX4_way 8 = .ok (.ifCond .eq 14, 3) := by decide +kernel
theorem dX4_way_11 : decode cX4_way 11 = .ok (.aload_n 0, 1) := by decide +kernel
theorem dX4_way_12 : decode cX4_way 12 = .ok (.getfield 10, 3) := by decide +kernel
theorem dX4_way_15 : decode cX4_way 15 = .ok (.iload_n 2, 1) := by decide +kernel
theorem dX4_way_16 : decode cX4_way 16 = .ok (.invokevirtual 61, 3) := by decide +kernel
theorem dX4_way_19 : decode cX4_way 19 = .ok (.ifCond .ne 5, 3) := by decide +kernel
theorem dX4_way_22 : decode cX4_way 22 = .ok (.iconst (-1), 1) := by decide +kernel
theorem dX4_way_23 : decode cX4_way 23 = .ok (.ireturn, 1) := by decide +kernel
theorem dX4_way_24 : decode cX4_way 24 = .ok (.iload_n 3, 1) := by decide +kernel
theorem dX4_way_25 : decode cX4_way 25 = .ok (.ifCond .lt 8, 3) := by decide +kernel
theorem dX4_way_28 : decode cX4_way 28 = .ok (.iload_n 3, 1) := by decide +kernel
theorem dX4_way_29 : decode cX4_way 29 = .ok (.iconst 2, 1) := by decide +kernel
theorem dX4_way_30 : decode cX4_way 30 = .ok (.if_icmp .le 6, 3) := by decide +kernel
theorem dX4_way_33 : decode cX4_way 33 = .ok (.bipush (-2), 2) := by decide +kernel
theorem dX4_way_35 : decode cX4_way 35 = .ok (.ireturn, 1) := by decide +kernel
theorem dX4_way_36 : decode cX4_way 36 = .ok (.aload_n 0, 1) := by decide +kernel
theorem dX4_way_37 : decode cX4_way 37 = .ok (.getfield 21, 3) := by decide +kernel
theorem dX4_way_40 : decode cX4_way 40 = .ok (.iload_n 1, 1) := by decide +kernel
theorem dX4_way_41 : decode cX4_way 41 = .ok (.iload_n 2, 1) := by decide +kernel
theorem dX4_way_42 : decode cX4_way 42 = .ok (.invokevirtual 171, 3) := by decide +kernel
theorem dX4_way_45 : decode cX4_way 45 = .ok (.ifCond .ne 6, 3) := by decide +kernel
theorem dX4_way_48 : decode cX4_way 48 = .ok (.bipush (-6), 2) := by decide +kernel
theorem dX4_way_50 : decode cX4_way 50 = .ok (.ireturn, 1) := by decide +kernel
theorem dX4_way_51 : decode cX4_way 51 = .ok (.iload_n 3, 1) := by decide +kernel
theorem dX4_way_52 : decode cX4_way 52 = .ok (.ifCond .ne 13, 3) := by decide +kernel
theorem dX4_way_55 : decode cX4_way 55 = .ok (.aload_n 0, 1) := by decide +kernel
theorem dX4_way_56 : decode cX4_way 56 = .ok (.getfield 21, 3) := by decide +kernel
theorem dX4_way_59 : decode cX4_way 59 = .ok (.iload_n 1, 1) := by decide +kernel
theorem dX4_way_60 : decode cX4_way 60 = .ok (.iload_n 2, 1) := by decide +kernel
theorem dX4_way_61 : decode cX4_way 61 = .ok (.invokevirtual 174, 3) := by decide +kernel
theorem dX4_way_64 : decode cX4_way 64 = .ok (.ireturn, 1) := by decide +kernel
theorem dX4_way_65 : decode cX4_way 65 = .ok (.aload_n 0, 1) := by decide +kernel
theorem dX4_way_66 : decode cX4_way 66 = .ok (.getfield 21, 3) := by decide +kernel
theorem dX4_way_69 : decode cX4_way 69 = .ok (.iload_n 1, 1) := by decide +kernel
theorem dX4_way_70 : decode cX4_way 70 = .ok (.iload_n 2, 1) := by decide +kernel
theorem dX4_way_71 : decode cX4_way 71 = .ok (.invokevirtual 178, 3) := by decide +kernel
theorem dX4_way_74 : decode cX4_way 74 = .ok (.invokestatic 130, 3) := by decide +kernel
theorem dX4_way_77 : decode cX4_way 77 = .ok (.istore 4, 2) := by decide +kernel
theorem dX4_way_79 : decode cX4_way 79 = .ok (.iload_n 3, 1) := by decide +kernel
theorem dX4_way_80 : decode cX4_way 80 = .ok (.iconst 1, 1) := by decide +kernel
theorem dX4_way_81 : decode cX4_way 81 = .ok (.if_icmp .ne 8, 3) := by decide +kernel
theorem dX4_way_84 : decode cX4_way 84 = .ok (.iload 4, 2) := by decide +kernel
theorem dX4_way_86 : decode cX4_way 86 = .ok (.goto 7, 3) := by decide +kernel
theorem dX4_way_89 : decode cX4_way 89 = .ok (.iload 4, 2) := by decide +kernel
theorem dX4_way_91 : decode cX4_way 91 = .ok (.iconst 1, 1) := by decide +kernel
theorem dX4_way_92 : decode cX4_way 92 = .ok (.iadd, 1) := by decide +kernel
theorem dX4_way_93 : decode cX4_way 93 = .ok (.ireturn, 1) := by decide +kernel
theorem dX4_must_0 : decode cX4_must 0 = .ok (.aload_n 0, 1) := by decide +kernel
theorem dX4_must_1 : decode cX4_must 1 = .ok (.getfield 10, 3) := by decide +kernel
theorem dX4_must_4 : decode cX4_must 4 = .ok (.iload_n 1, 1) := by decide +kernel
theorem dX4_must_5 : decode cX4_must 5 = .ok (.invokevirtual 61, 3) := by decide +kernel
theorem dX4_must_8 : decode cX4_must 8 = .ok (.ifCond .eq 14, 3) := by decide +kernel
theorem dX4_must_11 : decode cX4_must 11 = .ok (.aload_n 0, 1) := by decide +kernel
theorem dX4_must_12 : decode cX4_must 12 = .ok (.getfield 10, 3) := by decide +kernel
theorem dX4_must_15 : decode cX4_must 15 = .ok (.iload_n 2, 1) := by decide +kernel
theorem dX4_must_16 : decode cX4_must 16 = .ok (.invokevirtual 61, 3) := by decide +kernel
theorem dX4_must_19 : decode cX4_must 19 = .ok (.ifCond .ne 5, 3) := by decide +kernel
theorem dX4_must_22 : decode cX4_must 22 = .ok (.iconst (-1), 1) := by decide +kernel
theorem dX4_must_23 : decode cX4_must 23 = .ok (.ireturn, 1) := by decide +kernel
theorem dX4_must_24 : decode cX4_must 24 = .ok (.iload_n 3, 1) := by decide +kernel
theorem dX4_must_25 : decode cX4_must 25 = .ok (.ifCond .ge 6, 3) := by decide +kernel
theorem dX4_must_28 : decode cX4_must 28 = .ok (.bipush (-2), 2) := by decide +kernel
theorem dX4_must_30 : decode cX4_must 30 = .ok (.ireturn, 1) := by decide +kernel
theorem dX4_must_31 : decode cX4_must 31 = .ok (.aload_n 0, 1) := by decide +kernel
theorem dX4_must_32 : decode cX4_must 32 = .ok (.getfield 21, 3) := by decide +kernel
theorem dX4_must_35 : decode cX4_must 35 = .ok (.iload_n 1, 1) := by decide +kernel
theorem dX4_must_36 : decode cX4_must 36 = .ok (.iload_n 2, 1) := by decide +kernel
theorem dX4_must_37 : decode cX4_must 37 = .ok (.iload_n 3, 1) := by decide +kernel
theorem dX4_must_38 : decode cX4_must 38 = .ok (.invokevirtual 181, 3) := by decide +kernel
theorem dX4_must_41 : decode cX4_must 41 = .ok (.ireturn, 1) := by decide +kernel
theorem dX4_cutOff_0 : decode cX4_cutOff 0 = .ok (.aload_n 0, 1) := by decide +kernel
theorem dX4_cutOff_1 : decode cX4_cutOff 1 = .ok (.getfield 10, 3) := by decide +kernel
theorem dX4_cutOff_4 : decode cX4_cutOff 4 = .ok (.iload_n 1, 1) := by decide +kernel
theorem dX4_cutOff_5 : decode cX4_cutOff 5 = .ok (.invokevirtual 61, 3) := by decide +kernel
theorem dX4_cutOff_8 : decode cX4_cutOff 8 = .ok (.ifCond .eq 14, 3) := by decide +kernel
theorem dX4_cutOff_11 : decode cX4_cutOff 11 = .ok (.aload_n 0, 1) := by decide +kernel
theorem dX4_cutOff_12 : decode cX4_cutOff 12 = .ok (.getfield 10, 3) := by decide +kernel
theorem dX4_cutOff_15 : decode cX4_cutOff 15 = .ok (.iload_n 2, 1) := by decide +kernel
theorem dX4_cutOff_16 : decode cX4_cutOff 16 = .ok (.invokevirtual 74, 3) := by decide +kernel
theorem dX4_cutOff_19 : decode cX4_cutOff 19 = .ok (.ifCond .ne 5, 3) := by decide +kernel
theorem dX4_cutOff_22 : decode cX4_cutOff 22 = .ok (.iconst (-1), 1) := by decide +kernel
theorem dX4_cutOff_23 : decode cX4_cutOff 23 = .ok (.ireturn, 1) := by decide +kernel
theorem dX4_cutOff_24 : decode cX4_cutOff 24 = .ok (.aload_n 0, 1) := by decide +kernel
theorem dX4_cutOff_25 : decode cX4_cutOff 25 = .ok (.getfield 21, 3) := by decide +kernel
theorem dX4_cutOff_28 : decode cX4_cutOff 28 = .ok (.iload_n 1, 1) := by decide +kernel
theorem dX4_cutOff_29 : decode cX4_cutOff 29 = .ok (.iload_n 2, 1) := by decide +kernel
theorem dX4_cutOff_30 : decode cX4_cutOff 30 = .ok (.invokevirtual 185, 3) := by decide +kernel
theorem dX4_cutOff_33 : decode cX4_cutOff 33 = .ok (.ireturn, 1) := by decide +kernel
theorem dX4_ifBuilt_0 : decode cX4_ifBuilt 0 = .ok (.aload_n 0, 1) := by decide +kernel
theorem dX4_ifBuilt_1 : decode cX4_ifBuilt 1 = .ok (.getfield 10, 3) := by decide +kernel
theorem dX4_ifBuilt_4 : decode cX4_ifBuilt 4 = .ok (.iload_n 1, 1) := by decide +kernel
theorem dX4_ifBuilt_5 : decode cX4_ifBuilt 5 = .ok (.invokevirtual 61, 3) := by decide +kernel
theorem dX4_ifBuilt_8 : decode cX4_ifBuilt 8 = .ok (.ifCond .eq 14, 3) := by decide +kernel
theorem dX4_ifBuilt_11 : decode cX4_ifBuilt 11 = .ok (.aload_n 0, 1) := by decide +kernel
theorem dX4_ifBuilt_12 : decode cX4_ifBuilt 12 = .ok (.getfield 10, 3) := by decide +kernel
theorem dX4_ifBuilt_15 : decode cX4_ifBuilt 15 = .ok (.iload_n 2, 1) := by decide +kernel
theorem dX4_ifBuilt_16 : decode cX4_ifBuilt 16 = .ok (.invokevirtual 61, 3) := by decide +kernel
theorem dX4_ifBuilt_19 : decode cX4_ifBuilt 19 = .ok (.ifCond .ne 5, 3) := by decide +kernel
theorem dX4_ifBuilt_22 : decode cX4_ifBuilt 22 = .ok (.iconst (-1), 1) := by decide +kernel
theorem dX4_ifBuilt_23 : decode cX4_ifBuilt 23 = .ok (.ireturn, 1) := by decide +kernel
theorem dX4_ifBuilt_24 : decode cX4_ifBuilt 24 = .ok (.iload_n 1, 1) := by decide +kernel
theorem dX4_ifBuilt_25 : decode cX4_ifBuilt 25 = .ok (.iload_n 2, 1) := by decide +kernel
theorem dX4_ifBuilt_26 : decode cX4_ifBuilt 26 = .ok (.if_icmp .ne 6, 3) := by decide +kernel
theorem dX4_ifBuilt_29 : decode cX4_ifBuilt 29 = .ok (.bipush (-2), 2) := by decide +kernel
theorem dX4_ifBuilt_31 : decode cX4_ifBuilt 31 = .ok (.ireturn, 1) := by decide +kernel
theorem dX4_ifBuilt_32 : decode cX4_ifBuilt 32 = .ok (.aload_n 0, 1) := by decide +kernel
theorem dX4_ifBuilt_33 : decode cX4_ifBuilt 33 = .ok (.getfield 21, 3) := by decide +kernel
theorem dX4_ifBuilt_36 : decode cX4_ifBuilt 36 = .ok (.iload_n 1, 1) := by decide +kernel
theorem dX4_ifBuilt_37 : decode cX4_ifBuilt 37 = .ok (.iload_n 2, 1) := by decide +kernel
theorem dX4_ifBuilt_38 : decode cX4_ifBuilt 38 = .ok (.invokevirtual 178, 3) := by decide +kernel
theorem dX4_ifBuilt_41 : decode cX4_ifBuilt 41 = .ok (.invokestatic 130, 3) := by decide +kernel
theorem dX4_ifBuilt_44 : decode cX4_ifBuilt 44 = .ok (.istore 4, 2) := by decide +kernel
theorem dX4_ifBuilt_46 : decode cX4_ifBuilt 46 = .ok (.iload_n 3, 1) := by decide +kernel
theorem dX4_ifBuilt_47 : decode cX4_ifBuilt 47 = .ok (.tableswitch 71 0 2 #[25, 28, 39], 25) := by decide +kernel
theorem dX4_ifBuilt_72 : decode cX4_ifBuilt 72 = .ok (.iload 4, 2) := by decide +kernel
theorem dX4_ifBuilt_74 : decode cX4_ifBuilt 74 = .ok (.ireturn, 1) := by decide +kernel
theorem dX4_ifBuilt_75 : decode cX4_ifBuilt 75 = .ok (.aload_n 0, 1) := by decide +kernel
theorem dX4_ifBuilt_76 : decode cX4_ifBuilt 76 = .ok (.getfield 21, 3) := by decide +kernel
theorem dX4_ifBuilt_79 : decode cX4_ifBuilt 79 = .ok (.getfield 144, 3) := by decide +kernel
theorem dX4_ifBuilt_82 : decode cX4_ifBuilt 82 = .ok (.iload 4, 2) := by decide +kernel
theorem dX4_ifBuilt_84 : decode cX4_ifBuilt 84 = .ok (.isub, 1) := by decide +kernel
theorem dX4_ifBuilt_85 : decode cX4_ifBuilt 85 = .ok (.ireturn, 1) := by decide +kernel
theorem dX4_ifBuilt_86 : decode cX4_ifBuilt 86 = .ok (.aload_n 0, 1) := by decide +kernel
theorem dX4_ifBuilt_87 : decode cX4_ifBuilt 87 = .ok (.getfield 21, 3) := by decide +kernel
theorem dX4_ifBuilt_90 : decode cX4_ifBuilt 90 = .ok (.iload_n 1, 1) := by decide +kernel
theorem dX4_ifBuilt_91 : decode cX4_ifBuilt 91 = .ok (.iload_n 2, 1) := by decide +kernel
theorem dX4_ifBuilt_92 : decode cX4_ifBuilt 92 = .ok (.invokevirtual 171, 3) := by decide +kernel
theorem dX4_ifBuilt_95 : decode cX4_ifBuilt 95 = .ok (.ifCond .eq 13, 3) := by decide +kernel
theorem dX4_ifBuilt_98 : decode cX4_ifBuilt 98 = .ok (.aload_n 0, 1) := by decide +kernel
theorem dX4_ifBuilt_99 : decode cX4_ifBuilt 99 = .ok (.getfield 21, 3) := by decide +kernel
theorem dX4_ifBuilt_102 : decode cX4_ifBuilt 102 = .ok (.getfield 71, 3) := by decide +kernel
theorem dX4_ifBuilt_105 : decode cX4_ifBuilt 105 = .ok (.goto 12, 3) := by decide +kernel
theorem dX4_ifBuilt_108 : decode cX4_ifBuilt 108 = .ok (.aload_n 0, 1) := by decide +kernel
theorem dX4_ifBuilt_109 : decode cX4_ifBuilt 109 = .ok (.getfield 21, 3) := by decide +kernel
theorem dX4_ifBuilt_112 : decode cX4_ifBuilt 112 = .ok (.getfield 71, 3) := by decide +kernel
theorem dX4_ifBuilt_115 : decode cX4_ifBuilt 115 = .ok (.iconst 1, 1) := by decide +kernel
theorem dX4_ifBuilt_116 : decode cX4_ifBuilt 116 = .ok (.isub, 1) := by decide +kernel
theorem dX4_ifBuilt_117 : decode cX4_ifBuilt 117 = .ok (.ireturn, 1) := by decide +kernel
theorem dX4_ifBuilt_118 : decode cX4_ifBuilt 118 = .ok (.bipush (-2), 2) := by decide +kernel
theorem dX4_ifBuilt_120 : decode cX4_ifBuilt 120 = .ok (.ireturn, 1) := by decide +kernel
theorem dX4_bestBuilt_0 : decode cX4_bestBuilt 0 = .ok (.iload_n 1, 1) := by decide +kernel
theorem dX4_bestBuilt_1 : decode cX4_bestBuilt 1 = .ok (.ifCond .lt 8, 3) := by decide +kernel
theorem dX4_bestBuilt_4 : decode cX4_bestBuilt 4 = .ok (.iload_n 1, 1) := by decide +kernel
theorem dX4_bestBuilt_5 : decode cX4_bestBuilt 5 = .ok (.iconst 2, 1) := by decide +kernel
theorem dX4_bestBuilt_6 : decode cX4_bestBuilt 6 = .ok (.if_icmp .le 6, 3) := by decide +kernel
theorem dX4_bestBuilt_9 : decode cX4_bestBuilt 9 = .ok (.bipush (-2), 2) := by decide +kernel
theorem dX4_bestBuilt_11 : decode cX4_bestBuilt 11 = .ok (.ireturn, 1) := by decide +kernel
theorem dX4_bestBuilt_12 : decode cX4_bestBuilt 12 = .ok (.iconst 0, 1) := by decide +kernel
theorem dX4_bestBuilt_13 : decode cX4_bestBuilt 13 = .ok (.istore_n 2, 1) := by decide +kernel
theorem dX4_bestBuilt_14 : decode cX4_bestBuilt 14 = .ok (.iconst 1, 1) := by decide +kernel
theorem dX4_bestBuilt_15 : decode cX4_bestBuilt 15 = .ok (.istore_n 3, 1) := by decide +kernel
theorem dX4_bestBuilt_16 : decode cX4_bestBuilt 16 = .ok (.aload_n 0, 1) := by decide +kernel
theorem dX4_bestBuilt_17 : decode cX4_bestBuilt 17 = .ok (.getfield 21, 3) := by decide +kernel
theorem dX4_bestBuilt_20 : decode cX4_bestBuilt 20 = .ok (.iload_n 2, 1) := by decide +kernel
theorem dX4_bestBuilt_21 : decode cX4_bestBuilt 21 = .ok (.iload_n 3, 1) := by decide +kernel
theorem dX4_bestBuilt_22 : decode cX4_bestBuilt 22 = .ok (.invokevirtual 188, 3) := by decide +kernel
theorem dX4_bestBuilt_25 : decode cX4_bestBuilt 25 = .ok (.istore 4, 2) := by decide +kernel
theorem dX4_bestBuilt_27 : decode cX4_bestBuilt 27 = .ok (.iconst 0, 1) := by decide +kernel
theorem dX4_bestBuilt_28 : decode cX4_bestBuilt 28 = .ok (.istore 5, 2) := by decide +kernel
theorem dX4_bestBuilt_30 : decode cX4_bestBuilt 30 = .ok (.iload 5, 2) := by decide +kernel
theorem dX4_bestBuilt_32 : decode cX4_bestBuilt 32 = .ok (.aload_n 0, 1) := by decide +kernel
theorem dX4_bestBuilt_33 : decode cX4_bestBuilt 33 = .ok (.getfield 10, 3) := by decide +kernel
theorem dX4_bestBuilt_36 : decode cX4_bestBuilt 36 = .ok (.getfield 51, 3) := by decide +kernel
theorem dX4_bestBuilt_39 : decode cX4_bestBuilt 39 = .ok (.if_icmp .ge 63, 3) := by decide +kernel
theorem dX4_bestBuilt_42 : decode cX4_bestBuilt 42 = .ok (.iload 5, 2) := by decide +kernel
theorem dX4_bestBuilt_44 : decode cX4_bestBuilt 44 = .ok (.iconst 1, 1) := by decide +kernel
theorem dX4_bestBuilt_45 : decode cX4_bestBuilt 45 = .ok (.iadd, 1) := by decide +kernel
theorem dX4_bestBuilt_46 : decode cX4_bestBuilt 46 = .ok (.istore 6, 2) := by decide +kernel
theorem dX4_bestBuilt_48 : decode cX4_bestBuilt 48 = .ok (.iload 6, 2) := by decide +kernel
theorem dX4_bestBuilt_50 : decode cX4_bestBuilt 50 = .ok (.aload_n 0, 1) := by decide +kernel
theorem dX4_bestBuilt_51 : decode cX4_bestBuilt 51 = .ok (.getfield 10, 3) := by decide +kernel
theorem dX4_bestBuilt_54 : decode cX4_bestBuilt 54 = .ok (.getfield 51, 3) := by decide +kernel
theorem dX4_bestBuilt_57 : decode cX4_bestBuilt 57 = .ok (.if_icmp .ge 39, 3) := by decide +kernel
theorem dX4_bestBuilt_60 : decode cX4_bestBuilt 60 = .ok (.aload_n 0, 1) := by decide +kernel
theorem dX4_bestBuilt_61 : decode cX4_bestBuilt 61 = .ok (.getfield 21, 3) := by decide +kernel
theorem dX4_bestBuilt_64 : decode cX4_bestBuilt 64 = .ok (.iload 5, 2) := by decide +kernel
theorem dX4_bestBuilt_66 : decode cX4_bestBuilt 66 = .ok (.iload 6, 2) := by decide +kernel
theorem dX4_bestBuilt_68 : decode cX4_bestBuilt 68 = .ok (.invokevirtual 188, 3) := by decide +kernel
theorem dX4_bestBuilt_71 : decode cX4_bestBuilt 71 = .ok (.istore 7, 2) := by decide +kernel
theorem dX4_bestBuilt_73 : decode cX4_bestBuilt 73 = .ok (.iload 7, 2) := by decide +kernel
theorem dX4_bestBuilt_75 : decode cX4_bestBuilt 75 = .ok (.iload 4, 2) := by decide +kernel
theorem dX4_bestBuilt_77 : decode cX4_bestBuilt 77 = .ok (.if_icmp .ge 13, 3) := by decide +kernel
theorem dX4_bestBuilt_80 : decode cX4_bestBuilt 80 = .ok (.iload 7, 2) := by decide +kernel
theorem dX4_bestBuilt_82 : decode cX4_bestBuilt 82 = .ok (.istore 4, 2) := by decide +kernel
theorem dX4_bestBuilt_84 : decode cX4_bestBuilt 84 = .ok (.iload 5, 2) := by decide +kernel
theorem dX4_bestBuilt_86 : decode cX4_bestBuilt 86 = .ok (.istore_n 2, 1) := by decide +kernel
theorem dX4_bestBuilt_87 : decode cX4_bestBuilt 87 = .ok (.iload 6, 2) := by decide +kernel
theorem dX4_bestBuilt_89 : decode cX4_bestBuilt 89 = .ok (.istore_n 3, 1) := by decide +kernel
theorem dX4_bestBuilt_90 : decode cX4_bestBuilt 90 = .ok (.iinc 6 1, 3) := by decide +kernel
theorem dX4_bestBuilt_93 : decode cX4_bestBuilt 93 = .ok (.goto (-45), 3) := by decide +kernel
theorem dX4_bestBuilt_96 : decode cX4_bestBuilt 96 = .ok (.iinc 5 1, 3) := by decide +kernel
theorem dX4_bestBuilt_99 : decode cX4_bestBuilt 99 = .ok (.goto (-69), 3) := by decide +kernel
theorem dX4_bestBuilt_102 : decode cX4_bestBuilt 102 = .ok (.iload_n 1, 1) := by decide +kernel
theorem dX4_bestBuilt_103 : decode cX4_bestBuilt 103 = .ok (.iconst 2, 1) := by decide +kernel
theorem dX4_bestBuilt_104 : decode cX4_bestBuilt 104 = .ok (.if_icmp .ne 6, 3) := by decide +kernel
theorem dX4_bestBuilt_107 : decode cX4_bestBuilt 107 = .ok (.iload 4, 2) := by decide +kernel
theorem dX4_bestBuilt_109 : decode cX4_bestBuilt 109 = .ok (.ireturn, 1) := by decide +kernel
theorem dX4_bestBuilt_110 : decode cX4_bestBuilt 110 = .ok (.iload_n 1, 1) := by decide +kernel
theorem dX4_bestBuilt_111 : decode cX4_bestBuilt 111 = .ok (.ifCond .ne 7, 3) := by decide +kernel
theorem dX4_bestBuilt_114 : decode cX4_bestBuilt 114 = .ok (.iload_n 2, 1) := by decide +kernel
theorem dX4_bestBuilt_115 : decode cX4_bestBuilt 115 = .ok (.goto 4, 3) := by decide +kernel
theorem dX4_bestBuilt_118 : decode cX4_bestBuilt 118 = .ok (.iload_n 3, 1) := by decide +kernel
theorem dX4_bestBuilt_119 : decode cX4_bestBuilt 119 = .ok (.ireturn, 1) := by decide +kernel
theorem dX4_worstLoss_0 : decode cX4_worstLoss 0 = .ok (.iload_n 1, 1) := by decide +kernel
theorem dX4_worstLoss_1 : decode cX4_worstLoss 1 = .ok (.ifCond .eq 11, 3) := by decide +kernel
theorem dX4_worstLoss_4 : decode cX4_worstLoss 4 = .ok (.iload_n 1, 1) := by decide +kernel
theorem dX4_worstLoss_5 : decode cX4_worstLoss 5 = .ok (.iconst 1, 1) := by decide +kernel
theorem dX4_worstLoss_6 : decode cX4_worstLoss 6 = .ok (.if_icmp .eq 6, 3) := by decide +kernel
theorem dX4_worstLoss_9 : decode cX4_worstLoss 9 = .ok (.bipush (-2), 2) := by decide +kernel
theorem dX4_worstLoss_11 : decode cX4_worstLoss 11 = .ok (.ireturn, 1) := by decide +kernel
theorem dX4_worstLoss_12 : decode cX4_worstLoss 12 = .ok (.aload_n 0, 1) := by decide +kernel
theorem dX4_worstLoss_13 : decode cX4_worstLoss 13 = .ok (.getfield 10, 3) := by decide +kernel
theorem dX4_worstLoss_16 : decode cX4_worstLoss 16 = .ok (.getfield 64, 3) := by decide +kernel
theorem dX4_worstLoss_19 : decode cX4_worstLoss 19 = .ok (.ifCond .ne 6, 3) := by decide +kernel
theorem dX4_worstLoss_22 : decode cX4_worstLoss 22 = .ok (.bipush (-6), 2) := by decide +kernel
theorem dX4_worstLoss_24 : decode cX4_worstLoss 24 = .ok (.ireturn, 1) := by decide +kernel
theorem dX4_worstLoss_25 : decode cX4_worstLoss 25 = .ok (.iconst 0, 1) := by decide +kernel
theorem dX4_worstLoss_26 : decode cX4_worstLoss 26 = .ok (.istore_n 2, 1) := by decide +kernel
theorem dX4_worstLoss_27 : decode cX4_worstLoss 27 = .ok (.aload_n 0, 1) := by decide +kernel
theorem dX4_worstLoss_28 : decode cX4_worstLoss 28 = .ok (.getfield 21, 3) := by decide +kernel
theorem dX4_worstLoss_31 : decode cX4_worstLoss 31 = .ok (.iload_n 2, 1) := by decide +kernel
theorem dX4_worstLoss_32 : decode cX4_worstLoss 32 = .ok (.invokevirtual 124, 3) := by decide +kernel
theorem dX4_worstLoss_35 : decode cX4_worstLoss 35 = .ok (.istore_n 3, 1) := by decide +kernel
theorem dX4_worstLoss_36 : decode cX4_worstLoss 36 = .ok (.iconst 1, 1) := by decide +kernel
theorem dX4_worstLoss_37 : decode cX4_worstLoss 37 = .ok (.istore 4, 2) := by decide +kernel
theorem dX4_worstLoss_39 : decode cX4_worstLoss 39 = .ok (.iload 4, 2) := by decide +kernel
theorem dX4_worstLoss_41 : decode cX4_worstLoss 41 = .ok (.aload_n 0, 1) := by decide +kernel
theorem dX4_worstLoss_42 : decode cX4_worstLoss 42 = .ok (.getfield 10, 3) := by decide +kernel
theorem dX4_worstLoss_45 : decode cX4_worstLoss 45 = .ok (.getfield 64, 3) := by decide +kernel
theorem dX4_worstLoss_48 : decode cX4_worstLoss 48 = .ok (.if_icmp .ge 32, 3) := by decide +kernel
theorem dX4_worstLoss_51 : decode cX4_worstLoss 51 = .ok (.aload_n 0, 1) := by decide +kernel
theorem dX4_worstLoss_52 : decode cX4_worstLoss 52 = .ok (.getfield 21, 3) := by decide +kernel
theorem dX4_worstLoss_55 : decode cX4_worstLoss 55 = .ok (.iload 4, 2) := by decide +kernel
theorem dX4_worstLoss_57 : decode cX4_worstLoss 57 = .ok (.invokevirtual 124, 3) := by decide +kernel
theorem dX4_worstLoss_60 : decode cX4_worstLoss 60 = .ok (.istore 5, 2) := by decide +kernel
theorem dX4_worstLoss_62 : decode cX4_worstLoss 62 = .ok (.iload 5, 2) := by decide +kernel
theorem dX4_worstLoss_64 : decode cX4_worstLoss 64 = .ok (.iload_n 3, 1) := by decide +kernel
theorem dX4_worstLoss_65 : decode cX4_worstLoss 65 = .ok (.if_icmp .le 9, 3) := by decide +kernel
theorem dX4_worstLoss_68 : decode cX4_worstLoss 68 = .ok (.iload 5, 2) := by decide +kernel
theorem dX4_worstLoss_70 : decode cX4_worstLoss 70 = .ok (.istore_n 3, 1) := by decide +kernel
theorem dX4_worstLoss_71 : decode cX4_worstLoss 71 = .ok (.iload 4, 2) := by decide +kernel
theorem dX4_worstLoss_73 : decode cX4_worstLoss 73 = .ok (.istore_n 2, 1) := by decide +kernel
theorem dX4_worstLoss_74 : decode cX4_worstLoss 74 = .ok (.iinc 4 1, 3) := by decide +kernel
theorem dX4_worstLoss_77 : decode cX4_worstLoss 77 = .ok (.goto (-38), 3) := by decide +kernel
theorem dX4_worstLoss_80 : decode cX4_worstLoss 80 = .ok (.iload_n 1, 1) := by decide +kernel
theorem dX4_worstLoss_81 : decode cX4_worstLoss 81 = .ok (.ifCond .ne 7, 3) := by decide +kernel
theorem dX4_worstLoss_84 : decode cX4_worstLoss 84 = .ok (.iload_n 2, 1) := by decide +kernel
theorem dX4_worstLoss_85 : decode cX4_worstLoss 85 = .ok (.goto 4, 3) := by decide +kernel
theorem dX4_worstLoss_88 : decode cX4_worstLoss 88 = .ok (.iload_n 3, 1) := by decide +kernel
theorem dX4_worstLoss_89 : decode cX4_worstLoss 89 = .ok (.ireturn, 1) := by decide +kernel
theorem dX4_needed_0 : decode cX4_needed 0 = .ok (.aload_n 0, 1) := by decide +kernel
theorem dX4_needed_1 : decode cX4_needed 1 = .ok (.getfield 10, 3) := by decide +kernel
theorem dX4_needed_4 : decode cX4_needed 4 = .ok (.iload_n 1, 1) := by decide +kernel
theorem dX4_needed_5 : decode cX4_needed 5 = .ok (.invokevirtual 61, 3) := by decide +kernel
theorem dX4_needed_8 : decode cX4_needed 8 = .ok (.ifCond .ne 5, 3) := by decide +kernel
theorem dX4_needed_11 : decode cX4_needed 11 = .ok (.iconst (-1), 1) := by decide +kernel
theorem dX4_needed_12 : decode cX4_needed 12 = .ok (.ireturn, 1) := by decide +kernel
theorem dX4_needed_13 : decode cX4_needed 13 = .ok (.aload_n 0, 1) := by decide +kernel
theorem dX4_needed_14 : decode cX4_needed 14 = .ok (.getfield 21, 3) := by decide +kernel
theorem dX4_needed_17 : decode cX4_needed 17 = .ok (.aload_n 0, 1) := by decide +kernel
theorem dX4_needed_18 : decode cX4_needed 18 = .ok (.getfield 21, 3) := by decide +kernel
theorem dX4_needed_21 : decode cX4_needed 21 = .ok (.getfield 141, 3) := by decide +kernel
theorem dX4_needed_24 : decode cX4_needed 24 = .ok (.iload_n 1, 1) := by decide +kernel
theorem dX4_needed_25 : decode cX4_needed 25 = .ok (.iaload, 1) := by decide +kernel
theorem dX4_needed_26 : decode cX4_needed 26 = .ok (.invokevirtual 191, 3) := by decide +kernel
theorem dX4_needed_29 : decode cX4_needed 29 = .ok (.istore_n 2, 1) := by decide +kernel
theorem dX4_needed_30 : decode cX4_needed 30 = .ok (.iload_n 2, 1) := by decide +kernel
theorem dX4_needed_31 : decode cX4_needed 31 = .ok (.iconst 1, 1) := by decide +kernel
theorem dX4_needed_32 : decode cX4_needed 32 = .ok (.iadd, 1) := by decide +kernel
theorem dX4_needed_33 : decode cX4_needed 33 = .ok (.iconst 2, 1) := by decide +kernel
theorem dX4_needed_34 : decode cX4_needed 34 = .ok (.idiv, 1) := by decide +kernel
theorem dX4_needed_35 : decode cX4_needed 35 = .ok (.ireturn, 1) := by decide +kernel
theorem dX4_undo_0 : decode cX4_undo 0 = .ok (.aload_n 0, 1) := by decide +kernel
theorem dX4_undo_1 : decode cX4_undo 1 = .ok (.getfield 35, 3) := by decide +kernel
theorem dX4_undo_4 : decode cX4_undo 4 = .ok (.getfield 168, 3) := by decide +kernel
theorem dX4_undo_7 : decode cX4_undo 7 = .ok (.ifCond .ne 6, 3) := by decide +kernel
theorem dX4_undo_10 : decode cX4_undo 10 = .ok (.bipush (-5), 2) := by decide +kernel
theorem dX4_undo_12 : decode cX4_undo 12 = .ok (.ireturn, 1) := by decide +kernel
theorem dX4_undo_13 : decode cX4_undo 13 = .ok (.aload_n 0, 1) := by decide +kernel
theorem dX4_undo_14 : decode cX4_undo 14 = .ok (.getfield 35, 3) := by decide +kernel
theorem dX4_undo_17 : decode cX4_undo 17 = .ok (.aload_n 0, 1) := by decide +kernel
theorem dX4_undo_18 : decode cX4_undo 18 = .ok (.getfield 10, 3) := by decide +kernel
theorem dX4_undo_21 : decode cX4_undo 21 = .ok (.invokevirtual 208, 3) := by decide +kernel
theorem dX4_undo_24 : decode cX4_undo 24 = .ok (.aload_n 0, 1) := by decide +kernel
theorem dX4_undo_25 : decode cX4_undo 25 = .ok (.getfield 21, 3) := by decide +kernel
theorem dX4_undo_28 : decode cX4_undo 28 = .ok (.invokevirtual 58, 3) := by decide +kernel
theorem dX4_undo_31 : decode cX4_undo 31 = .ok (.aload_n 0, 1) := by decide +kernel
theorem dX4_undo_32 : decode cX4_undo 32 = .ok (.getfield 35, 3) := by decide +kernel
theorem dX4_undo_35 : decode cX4_undo 35 = .ok (.getfield 168, 3) := by decide +kernel
theorem dX4_undo_38 : decode cX4_undo 38 = .ok (.ireturn, 1) := by decide +kernel
theorem dX4_contains_0 : decode cX4_contains 0 = .ok (.iload_n 0, 1) := by decide +kernel
theorem dX4_contains_1 : decode cX4_contains 1 = .ok (.iload_n 1, 1) := by decide +kernel
theorem dX4_contains_2 : decode cX4_contains 2 = .ok (.ishr, 1) := by decide +kernel
theorem dX4_contains_3 : decode cX4_contains 3 = .ok (.iconst 1, 1) := by decide +kernel
theorem dX4_contains_4 : decode cX4_contains 4 = .ok (.iand, 1) := by decide +kernel
theorem dX4_contains_5 : decode cX4_contains 5 = .ok (.ifCond .eq 7, 3) := by decide +kernel
theorem dX4_contains_8 : decode cX4_contains 8 = .ok (.iconst 1, 1) := by decide +kernel
theorem dX4_contains_9 : decode cX4_contains 9 = .ok (.goto 4, 3) := by decide +kernel
theorem dX4_contains_12 : decode cX4_contains 12 = .ok (.iconst 0, 1) := by decide +kernel
theorem dX4_contains_13 : decode cX4_contains 13 = .ok (.ireturn, 1) := by decide +kernel
theorem dX4_setForMembers_0 : decode cX4_setForMembers 0 = .ok (.iconst 0, 1) := by decide +kernel
theorem dX4_setForMembers_1 : decode cX4_setForMembers 1 = .ok (.istore_n 3, 1) := by decide +kernel
theorem dX4_setForMembers_2 : decode cX4_setForMembers 2 = .ok (.iload_n 3, 1) := by decide +kernel
theorem dX4_setForMembers_3 : decode cX4_setForMembers 3 = .ok (.aload_n 0, 1) := by decide +kernel
theorem dX4_setForMembers_4 : decode cX4_setForMembers 4 = .ok (.arraylength, 1) := by decide +kernel
theorem dX4_setForMembers_5 : decode cX4_setForMembers 5 = .ok (.if_icmp .ge 21, 3) := by decide +kernel
theorem dX4_setForMembers_8 : decode cX4_setForMembers 8 = .ok (.iload_n 1, 1) := by decide +kernel
theorem dX4_setForMembers_9 : decode cX4_setForMembers 9 = .ok (.iload_n 3, 1) := by decide +kernel
theorem dX4_setForMembers_10 : decode cX4_setForMembers 10 = .ok (.invokestatic 117, 3) := by decide +kernel
theorem dX4_setForMembers_13 : decode cX4_setForMembers 13 = .ok (.ifCond .eq 7, 3) := by decide +kernel
theorem dX4_setForMembers_16 : decode cX4_setForMembers 16 = .ok (.aload_n 0, 1) := by decide +kernel
theorem dX4_setForMembers_17 : decode cX4_setForMembers 17 = .ok (.iload_n 3, 1) := by decide +kernel
theorem dX4_setForMembers_18 : decode cX4_setForMembers 18 = .ok (.iload_n 2, 1) := by decide +kernel
theorem dX4_setForMembers_19 : decode cX4_setForMembers 19 = .ok (.iastore, 1) := by decide +kernel
theorem dX4_setForMembers_20 : decode cX4_setForMembers 20 = .ok (.iinc 3 1, 3) := by decide +kernel
theorem dX4_setForMembers_23 : decode cX4_setForMembers 23 = .ok (.goto (-21), 3) := by decide +kernel
theorem dX4_setForMembers_26 : decode cX4_setForMembers 26 = .ok (.return_, 1) := by decide +kernel
theorem dJ6_bitCount_0f7a4_0 : decode cJ6_bitCount_0f7a4 0 = .ok (.iload_n 0, 1) := by decide +kernel
theorem dJ6_bitCount_0f7a4_1 : decode cJ6_bitCount_0f7a4 1 = .ok (.iload_n 0, 1) := by decide +kernel
theorem dJ6_bitCount_0f7a4_2 : decode cJ6_bitCount_0f7a4 2 = .ok (.iconst 1, 1) := by decide +kernel
theorem dJ6_bitCount_0f7a4_3 : decode cJ6_bitCount_0f7a4 3 = .ok (.iushr, 1) := by decide +kernel
theorem dJ6_bitCount_0f7a4_4 : decode cJ6_bitCount_0f7a4 4 = .ok (.ldc_w 265, 3) := by decide +kernel
theorem dJ6_bitCount_0f7a4_7 : decode cJ6_bitCount_0f7a4 7 = .ok (.iand, 1) := by decide +kernel
theorem dJ6_bitCount_0f7a4_8 : decode cJ6_bitCount_0f7a4 8 = .ok (.isub, 1) := by decide +kernel
theorem dJ6_bitCount_0f7a4_9 : decode cJ6_bitCount_0f7a4 9 = .ok (.istore_n 0, 1) := by decide +kernel
theorem dJ6_bitCount_0f7a4_10 : decode cJ6_bitCount_0f7a4 10 = .ok (.iload_n 0, 1) := by decide +kernel
theorem dJ6_bitCount_0f7a4_11 : decode cJ6_bitCount_0f7a4 11 = .ok (.ldc_w 266, 3) := by decide +kernel
theorem dJ6_bitCount_0f7a4_14 : decode cJ6_bitCount_0f7a4 14 = .ok (.iand, 1) := by decide +kernel
theorem dJ6_bitCount_0f7a4_15 : decode cJ6_bitCount_0f7a4 15 = .ok (.iload_n 0, 1) := by decide +kernel
theorem dJ6_bitCount_0f7a4_16 : decode cJ6_bitCount_0f7a4 16 = .ok (.iconst 2, 1) := by decide +kernel
theorem dJ6_bitCount_0f7a4_17 : decode cJ6_bitCount_0f7a4 17 = .ok (.iushr, 1) := by decide +kernel
theorem dJ6_bitCount_0f7a4_18 : decode cJ6_bitCount_0f7a4 18 = .ok (.ldc_w 266, 3) := by decide +kernel
theorem dJ6_bitCount_0f7a4_21 : decode cJ6_bitCount_0f7a4 21 = .ok (.iand, 1) := by decide +kernel
theorem dJ6_bitCount_0f7a4_22 : decode cJ6_bitCount_0f7a4 22 = .ok (.iadd, 1) := by decide +kernel
theorem dJ6_bitCount_0f7a4_23 : decode cJ6_bitCount_0f7a4 23 = .ok (.istore_n 0, 1) := by decide +kernel
theorem dJ6_bitCount_0f7a4_24 : decode cJ6_bitCount_0f7a4 24 = .ok (.iload_n 0, 1) := by decide +kernel
theorem dJ6_bitCount_0f7a4_25 : decode cJ6_bitCount_0f7a4 25 = .ok (.iload_n 0, 1) := by decide +kernel
theorem dJ6_bitCount_0f7a4_26 : decode cJ6_bitCount_0f7a4 26 = .ok (.iconst 4, 1) := by decide +kernel
theorem dJ6_bitCount_0f7a4_27 : decode cJ6_bitCount_0f7a4 27 = .ok (.iushr, 1) := by decide +kernel
theorem dJ6_bitCount_0f7a4_28 : decode cJ6_bitCount_0f7a4 28 = .ok (.iadd, 1) := by decide +kernel
theorem dJ6_bitCount_0f7a4_29 : decode cJ6_bitCount_0f7a4 29 = .ok (.ldc_w 267, 3) := by decide +kernel
theorem dJ6_bitCount_0f7a4_32 : decode cJ6_bitCount_0f7a4 32 = .ok (.iand, 1) := by decide +kernel
theorem dJ6_bitCount_0f7a4_33 : decode cJ6_bitCount_0f7a4 33 = .ok (.istore_n 0, 1) := by decide +kernel
theorem dJ6_bitCount_0f7a4_34 : decode cJ6_bitCount_0f7a4 34 = .ok (.iload_n 0, 1) := by decide +kernel
theorem dJ6_bitCount_0f7a4_35 : decode cJ6_bitCount_0f7a4 35 = .ok (.iload_n 0, 1) := by decide +kernel
theorem dJ6_bitCount_0f7a4_36 : decode cJ6_bitCount_0f7a4 36 = .ok (.bipush 8, 2) := by decide +kernel
theorem dJ6_bitCount_0f7a4_38 : decode cJ6_bitCount_0f7a4 38 = .ok (.iushr, 1) := by decide +kernel
theorem dJ6_bitCount_0f7a4_39 : decode cJ6_bitCount_0f7a4 39 = .ok (.iadd, 1) := by decide +kernel
theorem dJ6_bitCount_0f7a4_40 : decode cJ6_bitCount_0f7a4 40 = .ok (.istore_n 0, 1) := by decide +kernel
theorem dJ6_bitCount_0f7a4_41 : decode cJ6_bitCount_0f7a4 41 = .ok (.iload_n 0, 1) := by decide +kernel
theorem dJ6_bitCount_0f7a4_42 : decode cJ6_bitCount_0f7a4 42 = .ok (.iload_n 0, 1) := by decide +kernel
theorem dJ6_bitCount_0f7a4_43 : decode cJ6_bitCount_0f7a4 43 = .ok (.bipush 16, 2) := by decide +kernel
theorem dJ6_bitCount_0f7a4_45 : decode cJ6_bitCount_0f7a4 45 = .ok (.iushr, 1) := by decide +kernel
theorem dJ6_bitCount_0f7a4_46 : decode cJ6_bitCount_0f7a4 46 = .ok (.iadd, 1) := by decide +kernel
theorem dJ6_bitCount_0f7a4_47 : decode cJ6_bitCount_0f7a4 47 = .ok (.istore_n 0, 1) := by decide +kernel
theorem dJ6_bitCount_0f7a4_48 : decode cJ6_bitCount_0f7a4 48 = .ok (.iload_n 0, 1) := by decide +kernel
theorem dJ6_bitCount_0f7a4_49 : decode cJ6_bitCount_0f7a4 49 = .ok (.bipush 63, 2) := by decide +kernel
theorem dJ6_bitCount_0f7a4_51 : decode cJ6_bitCount_0f7a4 51 = .ok (.iand, 1) := by decide +kernel
theorem dJ6_bitCount_0f7a4_52 : decode cJ6_bitCount_0f7a4 52 = .ok (.ireturn, 1) := by decide +kernel
theorem dJ9_max_7cf53_0 : decode cJ9_max_7cf53 0 = .ok (.iload_n 0, 1) := by decide +kernel
theorem dJ9_max_7cf53_1 : decode cJ9_max_7cf53 1 = .ok (.iload_n 1, 1) := by decide +kernel
theorem dJ9_max_7cf53_2 : decode cJ9_max_7cf53 2 = .ok (.if_icmp .lt 7, 3) := by decide +kernel
theorem dJ9_max_7cf53_5 : decode cJ9_max_7cf53 5 = .ok (.iload_n 0, 1) := by decide +kernel
theorem dJ9_max_7cf53_6 : decode cJ9_max_7cf53 6 = .ok (.goto 4, 3) := by decide +kernel
theorem dJ9_max_7cf53_9 : decode cJ9_max_7cf53 9 = .ok (.iload_n 1, 1) := by decide +kernel
theorem dJ9_max_7cf53_10 : decode cJ9_max_7cf53 10 = .ok (.ireturn, 1) := by decide +kernel
theorem dJ9_min_7cf53_0 : decode cJ9_min_7cf53 0 = .ok (.iload_n 0, 1) := by decide +kernel
theorem dJ9_min_7cf53_1 : decode cJ9_min_7cf53 1 = .ok (.iload_n 1, 1) := by decide +kernel
theorem dJ9_min_7cf53_2 : decode cJ9_min_7cf53 2 = .ok (.if_icmp .gt 7, 3) := by decide +kernel
theorem dJ9_min_7cf53_5 : decode cJ9_min_7cf53 5 = .ok (.iload_n 0, 1) := by decide +kernel
theorem dJ9_min_7cf53_6 : decode cJ9_min_7cf53 6 = .ok (.goto 4, 3) := by decide +kernel
theorem dJ9_min_7cf53_9 : decode cJ9_min_7cf53 9 = .ok (.iload_n 1, 1) := by decide +kernel
theorem dJ9_min_7cf53_10 : decode cJ9_min_7cf53 10 = .ok (.ireturn, 1) := by decide +kernel


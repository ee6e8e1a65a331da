theorem dX0_init_0 : decode cX0_init 0 = .ok (.aload_n 0, 1) := by decide +kernel
theorem dX0_init_1 : decode cX0_init 1 = .ok (.invokespecial 3, 3) := by decide +kernel
theorem dX0_init_4 : decode cX0_init 4 = .ok (.aload_n 0, 1) := by decide +kernel
theorem dX0_init_5 : decode cX0_init 5 = .ok (.bipush 6, 2) := by decide +kernel
theorem dX0_init_7 : decode cX0_init 7 = .ok (.anewarray 9, 3) := by decide +kernel
theorem dX0_init_10 : decode cX0_init 10 = .ok (.putfield 11, 3) := by decide +kernel
theorem dX0_init_13 : decode cX0_init 13 = .ok (.aload_n 0, 1) := by decide +kernel
theorem dX0_init_14 : decode cX0_init 14 = .ok (.iconst 0, 1) := by decide +kernel
theorem dX0_init_15 : decode cX0_init 15 = .ok (.putfield 17, 3) := by decide +kernel
theorem dX0_init_18 : decode cX0_init 18 = .ok (.iconst 0, 1) := by decide +kernel
theorem dX0_init_19 : decode cX0_init 19 = .ok (.istore_n 1, 1) := by decide +kernel
theorem dX0_init_20 : decode cX0_init 20 = .ok (.iload_n 1, 1) := by decide +kernel
theorem dX0_init_21 : decode cX0_init 21 = .ok (.bipush 6, 2) := by decide +kernel
theorem dX0_init_23 : decode cX0_init 23 = .ok (.if_icmp .ge 22, 3) := by decide +kernel
theorem dX0_init_26 : decode cX0_init 26 = .ok (.aload_n 0, 1) := by decide +kernel
theorem dX0_init_27 : decode cX0_init 27 = .ok (.getfield 11, 3) := by decide +kernel
theorem dX0_init_30 : decode cX0_init 30 = .ok (.iload_n 1, 1) := by decide +kernel
theorem dX0_init_31 : decode cX0_init 31 = .ok (.new 9, 3) := by decide +kernel
theorem dX0_init_34 : decode cX0_init 34 = .ok (.dup, 1) := by decide +kernel
theorem dX0_init_35 : decode cX0_init 35 = .ok (.invokespecial 21, 3) := by decide +kernel
theorem dX0_init_38 : decode cX0_init 38 = .ok (.aastore, 1) := by decide +kernel
theorem dX0_init_39 : decode cX0_init 39 = .ok (.iinc 1 1, 3) := by decide +kernel
theorem dX0_init_42 : decode cX0_init 42 = .ok (.goto (-22), 3) := by decide +kernel
theorem dX0_init_45 : decode cX0_init 45 = .ok (.return_, 1) := by decide +kernel
theorem dX0_record_0 : decode cX0_record 0 = .ok (.aload_n 0, 1) := by decide +kernel
theorem dX0_record_1 : decode cX0_record 1 = .ok (.getfield 17, 3) := by decide +kernel
theorem dX0_record_4 : decode cX0_record 4 = .ok (.bipush 6, 2) := by decide +kernel
theorem dX0_record_6 : decode cX0_record 6 = .ok (.if_icmp .lt 7, 3) := by decide +kernel
theorem dX0_record_9 : decode cX0_record 9 = .ok (.aload_n 0, 1) := by decide +kernel
theorem dX0_record_10 : decode cX0_record 10 = .ok (.invokevirtual 22, 3) := by decide +kernel
theorem dX0_record_13 : decode cX0_record 13 = .ok (.aload_n 0, 1) := by decide +kernel
theorem dX0_record_14 : decode cX0_record 14 = .ok (.getfield 11, 3) := by decide +kernel
theorem dX0_record_17 : decode cX0_record 17 = .ok (.aload_n 0, 1) := by decide +kernel
theorem dX0_record_18 : decode cX0_record 18 = .ok (.getfield 17, 3) := by decide +kernel
theorem dX0_record_21 : decode cX0_record 21 = .ok (.aaload, 1) := by decide +kernel
theorem dX0_record_22 : decode cX0_record 22 = .ok (.aload_n 1, 1) := by decide +kernel
theorem dX0_record_23 : decode cX0_record 23 = .ok (.invokevirtual 25, 3) := by decide +kernel
theorem dX0_record_26 : decode cX0_record 26 = .ok (.aload_n 0, 1) := by decide +kernel
theorem dX0_record_27 : decode cX0_record 27 = .ok (.dup, 1) := by decide +kernel
theorem dX0_record_28 : decode cX0_record 28 = .ok (.getfield 17, 3) := by decide +kernel
theorem dX0_record_31 : decode cX0_record 31 = .ok (.iconst 1, 1) := by decide +kernel
theorem dX0_record_32 : decode cX0_record 32 = .ok (.iadd, 1) := by decide +kernel
theorem dX0_record_33 : decode cX0_record 33 = .ok (.putfield 17, 3) := by decide +kernel
theorem dX0_record_36 : decode cX0_record 36 = .ok (.return_, 1) := by decide +kernel
theorem dX0_dropOldest_0 : decode cX0_dropOldest 0 = .ok (.aload_n 0, 1) := by decide +kernel
theorem dX0_dropOldest_1 : decode cX0_dropOldest 1 = .ok (.getfield 11, 3) := by decide +kernel
theorem dX0_dropOldest_4 : decode cX0_dropOldest 4 = .ok (.iconst 0, 1) := by decide +kernel
theorem dX0_dropOldest_5 : decode cX0_dropOldest 5 = .ok (.aaload, 1) := by decide +kernel
theorem dX0_dropOldest_6 : decode cX0_dropOldest 6 = .ok (.astore_n 1, 1) := by decide +kernel
theorem dX0_dropOldest_7 : decode cX0_dropOldest 7 = .ok (.iconst 1, 1) := by decide +kernel
theorem dX0_dropOldest_8 : decode cX0_dropOldest 8 = .ok (.istore_n 2, 1) := by decide +kernel
theorem dX0_dropOldest_9 : decode cX0_dropOldest 9 = .ok (.iload_n 2, 1) := by decide +kernel
theorem dX0_dropOldest_10 : decode cX0_dropOldest 10 = .ok (.bipush 6, 2) := by decide +kernel
theorem dX0_dropOldest_12 : decode cX0_dropOldest 12 = .ok (.if_icmp .ge 23, 3) := by decide +kernel
theorem dX0_dropOldest_15 : decode cX0_dropOldest 15 = .ok (.aload_n 0, 1) := by decide +kernel
theorem dX0_dropOldest_16 : decode cX0_dropOldest 16 = .ok (.getfield 11, 3) := by decide +kernel
theorem dX0_dropOldest_19 : decode cX0_dropOldest 19 = .ok (.iload_n 2, 1) := by decide +kernel
theorem dX0_dropOldest_20 : decode cX0_dropOldest 20 = .ok (.iconst 1, 1) := by decide +kernel
theorem dX0_dropOldest_21 : decode cX0_dropOldest 21 = .ok (.isub, 1) := by decide +kernel
theorem dX0_dropOldest_22 : decode cX0_dropOldest 22 = .ok (.aload_n 0, 1) := by decide +kernel
theorem dX0_dropOldest_23 : decode cX0_dropOldest 23 = .ok (.getfield 11, 3) := by decide +kernel
theorem dX0_dropOldest_26 : decode cX0_dropOldest 26 = .ok (.iload_n 2, 1) := by decide +kernel
theorem dX0_dropOldest_27 : decode cX0_dropOldest 27 = .ok (.aaload, 1) := by decide +kernel
theorem dX0_dropOldest_28 : decode cX0_dropOldest 28 = .ok (.aastore, 1) := by decide +kernel
theorem dX0_dropOldest_29 : decode cX0_dropOldest 29 = .ok (.iinc 2 1, 3) := by decide +kernel
theorem dX0_dropOldest_32 : decode cX0_dropOldest 32 = .ok (.goto (-23), 3) := by decide +kernel
theorem dX0_dropOldest_35 : decode cX0_dropOldest 35 = .ok (.aload_n 0, 1) := by decide +kernel
theorem dX0_dropOldest_36 : decode cX0_dropOldest 36 = .ok (.getfield 11, 3) := by decide +kernel
theorem dX0_dropOldest_39 : decode cX0_dropOldest 39 = .ok (.iconst 5, 1) := by decide +kernel
theorem dX0_dropOldest_40 : decode cX0_dropOldest 40 = .ok (.aload_n 1, 1) := by decide +kernel
theorem dX0_dropOldest_41 : decode cX0_dropOldest 41 = .ok (.aastore, 1) := by decide +kernel
theorem dX0_dropOldest_42 : decode cX0_dropOldest 42 = .ok (.aload_n 0, 1) := by decide +kernel
theorem dX0_dropOldest_43 : decode cX0_dropOldest 43 = .ok (.iconst 5, 1) := by decide +kernel
theorem dX0_dropOldest_44 : decode cX0_dropOldest 44 = .ok (.putfield 17, 3) := by decide +kernel
theorem dX0_dropOldest_47 : decode cX0_dropOldest 47 = .ok (.return_, 1) := by decide +kernel
theorem dX0_takeBack_0 : decode cX0_takeBack 0 = .ok (.aload_n 0, 1) := by decide +kernel
theorem dX0_takeBack_1 : decode cX0_takeBack 1 = .ok (.getfield 17, 3) := by decide +kernel
theorem dX0_takeBack_4 : decode cX0_takeBack 4 = .ok (.ifCond .le 26, 3) := by decide +kernel
theorem dX0_takeBack_7 : decode cX0_takeBack 7 = .ok (.aload_n 0, 1) := by decide +kernel
theorem dX0_takeBack_8 : decode cX0_takeBack 8 = .ok (.dup, 1) := by decide +kernel
theorem dX0_takeBack_9 : decode cX0_takeBack 9 = .ok (.getfield 17, 3) := by decide +kernel
theorem dX0_takeBack_12 : decode cX0_takeBack 12 = .ok (.iconst 1, 1) := by decide +kernel
theorem dX0_takeBack_13 : decode cX0_takeBack 13 = .ok (.isub, 1) := by decide +kernel
theorem dX0_takeBack_14 : decode cX0_takeBack 14 = .ok (.putfield 17, 3) := by decide +kernel
theorem dX0_takeBack_17 : decode cX0_takeBack 17 = .ok (.aload_n 1, 1) := by decide +kernel
theorem dX0_takeBack_18 : decode cX0_takeBack 18 = .ok (.aload_n 0, 1) := by decide +kernel
theorem dX0_takeBack_19 : decode cX0_takeBack 19 = .ok (.getfield 11, 3) := by decide +kernel
theorem dX0_takeBack_22 : decode cX0_takeBack 22 = .ok (.aload_n 0, 1) := by decide +kernel
theorem dX0_takeBack_23 : decode cX0_takeBack 23 = .ok (.getfield 17, 3) := by decide +kernel
theorem dX0_takeBack_26 : decode cX0_takeBack 26 = .ok (.aaload, 1) := by decide +kernel
theorem dX0_takeBack_27 : decode cX0_takeBack 27 = .ok (.invokevirtual 25, 3) := by decide +kernel
theorem dX0_takeBack_30 : decode cX0_takeBack 30 = .ok (.return_, 1) := by decide +kernel
theorem dX1_init_0 : decode cX1_init 0 = .ok (.aload_n 0, 1) := by decide +kernel
theorem dX1_init_1 : decode cX1_init 1 = .ok (.invokespecial 3, 3) := by decide +kernel
theorem dX1_init_4 : decode cX1_init 4 = .ok (.aload_n 0, 1) := by decide +kernel
theorem dX1_init_5 : decode cX1_init 5 = .ok (.bipush 80, 2) := by decide +kernel
theorem dX1_init_7 : decode cX1_init 7 = .ok (.newarray .char, 2) := by decide +kernel
theorem dX1_init_9 : decode cX1_init 9 = .ok (.putfield 9, 3) := by decide +kernel
theorem dX1_init_12 : decode cX1_init 12 = .ok (.aload_n 0, 1) := by decide +kernel
theorem dX1_init_13 : decode cX1_init 13 = .ok (.iconst 0, 1) := by decide +kernel
theorem dX1_init_14 : decode cX1_init 14 = .ok (.putfield 15, 3) := by decide +kernel
theorem dX1_init_17 : decode cX1_init 17 = .ok (.aload_n 0, 1) := by decide +kernel
theorem dX1_init_18 : decode cX1_init 18 = .ok (.bipush 80, 2) := by decide +kernel
theorem dX1_init_20 : decode cX1_init 20 = .ok (.newarray .int, 2) := by decide +kernel
theorem dX1_init_22 : decode cX1_init 22 = .ok (.putfield 19, 3) := by decide +kernel
theorem dX1_init_25 : decode cX1_init 25 = .ok (.aload_n 0, 1) := by decide +kernel
theorem dX1_init_26 : decode cX1_init 26 = .ok (.iconst 0, 1) := by decide +kernel
theorem dX1_init_27 : decode cX1_init 27 = .ok (.putfield 23, 3) := by decide +kernel
theorem dX1_init_30 : decode cX1_init 30 = .ok (.aload_n 0, 1) := by decide +kernel
theorem dX1_init_31 : decode cX1_init 31 = .ok (.iconst (-1), 1) := by decide +kernel
theorem dX1_init_32 : decode cX1_init 32 = .ok (.putfield 26, 3) := by decide +kernel
theorem dX1_init_35 : decode cX1_init 35 = .ok (.return_, 1) := by decide +kernel
theorem dX1_append_0 : decode cX1_append 0 = .ok (.iload_n 3, 1) := by decide +kernel
theorem dX1_append_1 : decode cX1_append 1 = .ok (.iconst 1, 1) := by decide +kernel
theorem dX1_append_2 : decode cX1_append 2 = .ok (.isub, 1) := by decide +kernel
theorem dX1_append_3 : decode cX1_append 3 = .ok (.istore 4, 2) := by decide +kernel
theorem dX1_append_5 : decode cX1_append 5 = .ok (.iload 4, 2) := by decide +kernel
theorem dX1_append_7 : decode cX1_append 7 = .ok (.ifCond .lt 50, 3) := by decide +kernel
theorem dX1_append_10 : decode cX1_append 10 = .ok (.aload_n 0, 1) := by decide +kernel
theorem dX1_append_11 : decode cX1_append 11 = .ok (.getfield 15, 3) := by decide +kernel
theorem dX1_append_14 : decode cX1_append 14 = .ok (.bipush 80, 2) := by decide +kernel
theorem dX1_append_16 : decode cX1_append 16 = .ok (.if_icmp .ge 41, 3) := by decide +kernel
theorem dX1_append_19 : decode cX1_append 19 = .ok (.aload_n 0, 1) := by decide +kernel
theorem dX1_append_20 : decode cX1_append 20 = .ok (.getfield 9, 3) := by decide +kernel
theorem dX1_append_23 : decode cX1_append 23 = .ok (.aload_n 0, 1) := by decide +kernel
theorem dX1_append_24 : decode cX1_append 24 = .ok (.getfield 15, 3) := by decide +kernel
theorem dX1_append_27 : decode cX1_append 27 = .ok (.lload_n 1, 1) := by decide +kernel
theorem dX1_append_28 : decode cX1_append 28 = .ok (.bipush 8, 2) := by decide +kernel
theorem dX1_append_30 : decode cX1_append 30 = .ok (.iload 4, 2) := by decide +kernel
theorem dX1_append_32 : decode cX1_append 32 = .ok (.imul, 1) := by decide +kernel
theorem dX1_append_33 : decode cX1_append 33 = .ok (.lushr, 1) := by decide +kernel
theorem dX1_append_34 : decode cX1_append 34 = .ok (.ldc2_w 29, 3) := by decide +kernel
theorem dX1_append_37 : decode cX1_append 37 = .ok (.land, 1) := by decide +kernel
theorem dX1_append_38 : decode cX1_append 38 = .ok (.l2i, 1) := by decide +kernel
theorem dX1_append_39 : decode cX1_append 39 = .ok (.i2c, 1) := by decide +kernel
theorem dX1_append_40 : decode cX1_append 40 = .ok (.castore, 1) := by decide +kernel
theorem dX1_append_41 : decode cX1_append 41 = .ok (.aload_n 0, 1) := by decide +kernel
theorem dX1_append_42 : decode cX1_append 42 = .ok (.dup, 1) := by decide +kernel
theorem dX1_append_43 : decode cX1_append 43 = .ok (.getfield 15, 3) := by decide +kernel
theorem dX1_append_46 : decode cX1_append 46 = .ok (.iconst 1, 1) := by decide +kernel
theorem dX1_append_47 : decode cX1_append 47 = .ok (.iadd, 1) := by decide +kernel
theorem dX1_append_48 : decode cX1_append 48 = .ok (.putfield 15, 3) := by decide +kernel
theorem dX1_append_51 : decode cX1_append 51 = .ok (.iinc 4 (-1), 3) := by decide +kernel
theorem dX1_append_54 : decode cX1_append 54 = .ok (.goto (-49), 3) := by decide +kernel
theorem dX1_append_57 : decode cX1_append 57 = .ok (.return_, 1) := by decide +kernel
theorem dX1_parsedRoads_0 : decode cX1_parsedRoads 0 = .ok (.aload_n 0, 1) := by decide +kernel
theorem dX1_parsedRoads_1 : decode cX1_parsedRoads 1 = .ok (.getfield 23, 3) := by decide +kernel
theorem dX1_parsedRoads_4 : decode cX1_parsedRoads 4 = .ok (.iconst 3, 1) := by decide +kernel
theorem dX1_parsedRoads_5 : decode cX1_parsedRoads 5 = .ok (.idiv, 1) := by decide +kernel
theorem dX1_parsedRoads_6 : decode cX1_parsedRoads 6 = .ok (.ireturn, 1) := by decide +kernel
theorem dX1_parsedOne_0 : decode cX1_parsedOne 0 = .ok (.aload_n 0, 1) := by decide +kernel
theorem dX1_parsedOne_1 : decode cX1_parsedOne 1 = .ok (.getfield 19, 3) := by decide +kernel
theorem dX1_parsedOne_4 : decode cX1_parsedOne 4 = .ok (.iconst 3, 1) := by decide +kernel
theorem dX1_parsedOne_5 : decode cX1_parsedOne 5 = .ok (.iload_n 1, 1) := by decide +kernel
theorem dX1_parsedOne_6 : decode cX1_parsedOne 6 = .ok (.imul, 1) := by decide +kernel
theorem dX1_parsedOne_7 : decode cX1_parsedOne 7 = .ok (.iaload, 1) := by decide +kernel
theorem dX1_parsedOne_8 : decode cX1_parsedOne 8 = .ok (.ireturn, 1) := by decide +kernel
theorem dX1_parsedOther_0 : decode cX1_parsedOther 0 = .ok (.aload_n 0, 1) := by decide +kernel
theorem dX1_parsedOther_1 : decode cX1_parsedOther 1 = .ok (.getfield 19, 3) := by decide +kernel
theorem dX1_parsedOther_4 : decode cX1_parsedOther 4 = .ok (.iconst 3, 1) := by decide +kernel
theorem dX1_parsedOther_5 : decode cX1_parsedOther 5 = .ok (.iload_n 1, 1) := by decide +kernel
theorem dX1_parsedOther_6 : decode cX1_parsedOther 6 = .ok (.imul, 1) := by decide +kernel
theorem dX1_parsedOther_7 : decode cX1_parsedOther 7 = .ok (.iconst 1, 1) := by decide +kernel
theorem dX1_parsedOther_8 : decode cX1_parsedOther 8 = .ok (.iadd, 1) := by decide +kernel
theorem dX1_parsedOther_9 : decode cX1_parsedOther 9 = .ok (.iaload, 1) := by decide +kernel
theorem dX1_parsedOther_10 : decode cX1_parsedOther 10 = .ok (.ireturn, 1) := by decide +kernel
theorem dX1_parsedLength_0 : decode cX1_parsedLength 0 = .ok (.aload_n 0, 1) := by decide +kernel
theorem dX1_parsedLength_1 : decode cX1_parsedLength 1 = .ok (.getfield 19, 3) := by decide +kernel
theorem dX1_parsedLength_4 : decode cX1_parsedLength 4 = .ok (.iconst 3, 1) := by decide +kernel
theorem dX1_parsedLength_5 : decode cX1_parsedLength 5 = .ok (.iload_n 1, 1) := by decide +kernel
theorem dX1_parsedLength_6 : decode cX1_parsedLength 6 = .ok (.imul, 1) := by decide +kernel
theorem dX1_parsedLength_7 : decode cX1_parsedLength 7 = .ok (.iconst 2, 1) := by decide +kernel
theorem dX1_parsedLength_8 : decode cX1_parsedLength 8 = .ok (.iadd, 1) := by decide +kernel
theorem dX1_parsedLength_9 : decode cX1_parsedLength 9 = .ok (.iaload, 1) := by decide +kernel
theorem dX1_parsedLength_10 : decode cX1_parsedLength 10 = .ok (.ireturn, 1) := by decide +kernel
theorem dX1_parse_0 : decode cX1_parse 0 = .ok (.aload_n 0, 1) := by decide +kernel
theorem dX1_parse_1 : decode cX1_parse 1 = .ok (.iconst 0, 1) := by decide +kernel
theorem dX1_parse_2 : decode cX1_parse 2 = .ok (.putfield 23, 3) := by decide +kernel
theorem dX1_parse_5 : decode cX1_parse 5 = .ok (.aload_n 0, 1) := by decide +kernel
theorem dX1_parse_6 : decode cX1_parse 6 = .ok (.iconst (-1), 1) := by decide +kernel
theorem dX1_parse_7 : decode cX1_parse 7 = .ok (.putfield 26, 3) := by decide +kernel
theorem dX1_parse_10 : decode cX1_parse 10 = .ok (.iconst 0, 1) := by decide +kernel
theorem dX1_parse_11 : decode cX1_parse 11 = .ok (.istore_n 1, 1) := by decide +kernel
theorem dX1_parse_12 : decode cX1_parse 12 = .ok (.iload_n 1, 1) := by decide +kernel
theorem dX1_parse_13 : decode cX1_parse 13 = .ok (.aload_n 0, 1) := by decide +kernel
theorem dX1_parse_14 : decode cX1_parse 14 = .ok (.getfield 15, 3) := by decide +kernel
theorem dX1_parse_17 : decode cX1_parse 17 = .ok (.if_icmp .ge 24, 3) := by decide +kernel
theorem dX1_parse_20 : decode cX1_parse 20 = .ok (.aload_n 0, 1) := by decide +kernel
theorem dX1_parse_21 : decode cX1_parse 21 = .ok (.aload_n 0, 1) := by decide +kernel
theorem dX1_parse_22 : decode cX1_parse 22 = .ok (.getfield 9, 3) := by decide +kernel
theorem dX1_parse_25 : decode cX1_parse 25 = .ok (.iload_n 1, 1) := by decide +kernel
theorem dX1_parse_26 : decode cX1_parse 26 = .ok (.caload, 1) := by decide +kernel
theorem dX1_parse_27 : decode cX1_parse 27 = .ok (.invokevirtual 31, 3) := by decide +kernel
theorem dX1_parse_30 : decode cX1_parse 30 = .ok (.ifCond .ne 5, 3) := by decide +kernel
theorem dX1_parse_33 : decode cX1_parse 33 = .ok (.iload_n 1, 1) := by decide +kernel
theorem dX1_parse_34 : decode cX1_parse 34 = .ok (.ireturn, 1) := by decide +kernel
theorem dX1_parse_35 : decode cX1_parse 35 = .ok (.iinc 1 1, 3) := by decide +kernel
theorem dX1_parse_38 : decode cX1_parse 38 = .ok (.goto (-26), 3) := by decide +kernel
theorem dX1_parse_41 : decode cX1_parse 41 = .ok (.aload_n 0, 1) := by decide +kernel
theorem dX1_parse_42 : decode cX1_parse 42 = .ok (.invokevirtual 35, 3) := by decide +kernel
theorem dX1_parse_45 : decode cX1_parse 45 = .ok (.ifCond .eq 11, 3) := by decide +kernel
theorem dX1_parse_48 : decode cX1_parse 48 = .ok (.aload_n 0, 1) := by decide +kernel
theorem dX1_parse_49 : decode cX1_parse 49 = .ok (.getfield 26, 3) := by decide +kernel
theorem dX1_parse_52 : decode cX1_parse 52 = .ok (.iconst (-1), 1) := by decide +kernel
theorem dX1_parse_53 : decode cX1_parse 53 = .ok (.if_icmp .ne 8, 3) := by decide +kernel
theorem dX1_parse_56 : decode cX1_parse 56 = .ok (.aload_n 0, 1) := by decide +kernel
theorem dX1_parse_57 : decode cX1_parse 57 = .ok (.getfield 15, 3) := by decide +kernel
theorem dX1_parse_60 : decode cX1_parse 60 = .ok (.ireturn, 1) := by decide +kernel
theorem dX1_parse_61 : decode cX1_parse 61 = .ok (.aload_n 0, 1) := by decide +kernel
theorem dX1_parse_62 : decode cX1_parse 62 = .ok (.invokevirtual 39, 3) := by decide +kernel
theorem dX1_parse_65 : decode cX1_parse 65 = .ok (.bipush (-6), 2) := by decide +kernel
theorem dX1_parse_67 : decode cX1_parse 67 = .ok (.ireturn, 1) := by decide +kernel
theorem dX1_atLength_0 : decode cX1_atLength 0 = .ok (.aload_n 0, 1) := by decide +kernel
theorem dX1_atLength_1 : decode cX1_atLength 1 = .ok (.getfield 23, 3) := by decide +kernel
theorem dX1_atLength_4 : decode cX1_atLength 4 = .ok (.iconst 3, 1) := by decide +kernel
theorem dX1_atLength_5 : decode cX1_atLength 5 = .ok (.irem, 1) := by decide +kernel
theorem dX1_atLength_6 : decode cX1_atLength 6 = .ok (.iconst 2, 1) := by decide +kernel
theorem dX1_atLength_7 : decode cX1_atLength 7 = .ok (.if_icmp .ne 7, 3) := by decide +kernel
theorem dX1_atLength_10 : decode cX1_atLength 10 = .ok (.iconst 1, 1) := by decide +kernel
theorem dX1_atLength_11 : decode cX1_atLength 11 = .ok (.goto 4, 3) := by decide +kernel
theorem dX1_atLength_14 : decode cX1_atLength 14 = .ok (.iconst 0, 1) := by decide +kernel
theorem dX1_atLength_15 : decode cX1_atLength 15 = .ok (.ireturn, 1) := by decide +kernel
theorem dX1_takes_0 : decode cX1_takes 0 = .ok (.iload_n 1, 1) := by decide +kernel
theorem dX1_takes_1 : decode cX1_takes 1 = .ok (.bipush 48, 2) := by decide +kernel
theorem dX1_takes_3 : decode cX1_takes 3 = .ok (.if_icmp .lt 18, 3) := by decide +kernel
theorem dX1_takes_6 : decode cX1_takes 6 = .ok (.iload_n 1, 1) := by decide +kernel
theorem dX1_takes_7 : decode cX1_takes 7 = .ok (.bipush 57, 2) := by decide +kernel
theorem dX1_takes_9 : decode cX1_takes 9 = .ok (.if_icmp .gt 12, 3) := by decide +kernel
theorem dX1_takes_12 : decode cX1_takes 12 = .ok (.aload_n 0, 1) := by decide +kernel
theorem dX1_takes_13 : decode cX1_takes 13 = .ok (.iload_n 1, 1) := by decide +kernel
theorem dX1_takes_14 : decode cX1_takes 14 = .ok (.bipush 48, 2) := by decide +kernel
theorem dX1_takes_16 : decode cX1_takes 16 = .ok (.isub, 1) := by decide +kernel
theorem dX1_takes_17 : decode cX1_takes 17 = .ok (.invokevirtual 42, 3) := by decide +kernel
theorem dX1_takes_20 : decode cX1_takes 20 = .ok (.ireturn, 1) := by decide +kernel
theorem dX1_takes_21 : decode cX1_takes 21 = .ok (.aload_n 0, 1) := by decide +kernel
theorem dX1_takes_22 : decode cX1_takes 22 = .ok (.getfield 26, 3) := by decide +kernel
theorem dX1_takes_25 : decode cX1_takes 25 = .ok (.iconst (-1), 1) := by decide +kernel
theorem dX1_takes_26 : decode cX1_takes 26 = .ok (.if_icmp .eq 11, 3) := by decide +kernel
theorem dX1_takes_29 : decode cX1_takes 29 = .ok (.iload_n 1, 1) := by decide +kernel
theorem dX1_takes_30 : decode cX1_takes 30 = .ok (.aload_n 0, 1) := by decide +kernel
theorem dX1_takes_31 : decode cX1_takes 31 = .ok (.invokevirtual 46, 3) := by decide +kernel
theorem dX1_takes_34 : decode cX1_takes 34 = .ok (.if_icmp .eq 5, 3) := by decide +kernel
theorem dX1_takes_37 : decode cX1_takes 37 = .ok (.iconst 0, 1) := by decide +kernel
theorem dX1_takes_38 : decode cX1_takes 38 = .ok (.ireturn, 1) := by decide +kernel
theorem dX1_takes_39 : decode cX1_takes 39 = .ok (.aload_n 0, 1) := by decide +kernel
theorem dX1_takes_40 : decode cX1_takes 40 = .ok (.invokevirtual 39, 3) := by decide +kernel
theorem dX1_takes_43 : decode cX1_takes 43 = .ok (.iconst 1, 1) := by decide +kernel
theorem dX1_takes_44 : decode cX1_takes 44 = .ok (.ireturn, 1) := by decide +kernel
theorem dX1_takesDigit_0 : decode cX1_takesDigit 0 = .ok (.aload_n 0, 1) := by decide +kernel
theorem dX1_takesDigit_1 : decode cX1_takesDigit 1 = .ok (.getfield 26, 3) := by decide +kernel
theorem dX1_takesDigit_4 : decode cX1_takesDigit 4 = .ok (.iconst (-1), 1) := by decide +kernel
theorem dX1_takesDigit_5 : decode cX1_takesDigit 5 = .ok (.if_icmp .ne 25, 3) := by decide +kernel
theorem dX1_takesDigit_8 : decode cX1_takesDigit 8 = .ok (.aload_n 0, 1) := by decide +kernel
theorem dX1_takesDigit_9 : decode cX1_takesDigit 9 = .ok (.iload_n 1, 1) := by decide +kernel
theorem dX1_takesDigit_10 : decode cX1_takesDigit 10 = .ok (.putfield 26, 3) := by decide +kernel
theorem dX1_takesDigit_13 : decode cX1_takesDigit 13 = .ok (.iload_n 1, 1) := by decide +kernel
theorem dX1_takesDigit_14 : decode cX1_takesDigit 14 = .ok (.ifCond .gt 10, 3) := by decide +kernel
theorem dX1_takesDigit_17 : decode cX1_takesDigit 17 = .ok (.aload_n 0, 1) := by decide +kernel
theorem dX1_takesDigit_18 : decode cX1_takesDigit 18 = .ok (.invokevirtual 35, 3) := by decide +kernel
theorem dX1_takesDigit_21 : decode cX1_takesDigit 21 = .ok (.ifCond .ne 7, 3) := by decide +kernel
theorem dX1_takesDigit_24 : decode cX1_takesDigit 24 = .ok (.iconst 1, 1) := by decide +kernel
theorem dX1_takesDigit_25 : decode cX1_takesDigit 25 = .ok (.goto 4, 3) := by decide +kernel
theorem dX1_takesDigit_28 : decode cX1_takesDigit 28 = .ok (.iconst 0, 1) := by decide +kernel
theorem dX1_takesDigit_29 : decode cX1_takesDigit 29 = .ok (.ireturn, 1) := by decide +kernel
theorem dX1_takesDigit_30 : decode cX1_takesDigit 30 = .ok (.aload_n 0, 1) := by decide +kernel
theorem dX1_takesDigit_31 : decode cX1_takesDigit 31 = .ok (.getfield 26, 3) := by decide +kernel
theorem dX1_takesDigit_34 : decode cX1_takesDigit 34 = .ok (.bipush 10, 2) := by decide +kernel
theorem dX1_takesDigit_36 : decode cX1_takesDigit 36 = .ok (.imul, 1) := by decide +kernel
theorem dX1_takesDigit_37 : decode cX1_takesDigit 37 = .ok (.iload_n 1, 1) := by decide +kernel
theorem dX1_takesDigit_38 : decode cX1_takesDigit 38 = .ok (.iadd, 1) := by decide +kernel
theorem dX1_takesDigit_39 : decode cX1_takesDigit 39 = .ok (.istore_n 2, 1) := by decide +kernel
theorem dX1_takesDigit_40 : decode cX1_takesDigit 40 = .ok (.aload_n 0, 1) := by decide +kernel
theorem dX1_takesDigit_41 : decode cX1_takesDigit 41 = .ok (.getfield 26, 3) := by decide +kernel
theorem dX1_takesDigit_44 : decode cX1_takesDigit 44 = .ok (.ifCond .eq 21, 3) := by decide +kernel
theorem dX1_takesDigit_47 : decode cX1_takesDigit 47 = .ok (.iload_n 2, 1) := by decide +kernel
theorem dX1_takesDigit_48 : decode cX1_takesDigit 48 = .ok (.aload_n 0, 1) := by decide +kernel
theorem dX1_takesDigit_49 : decode cX1_takesDigit 49 = .ok (.invokevirtual 35, 3) := by decide +kernel
theorem dX1_takesDigit_52 : decode cX1_takesDigit 52 = .ok (.ifCond .eq 8, 3) := by decide +kernel
theorem dX1_takesDigit_55 : decode cX1_takesDigit 55 = .ok (.bipush 99, 2) := by decide +kernel
theorem dX1_takesDigit_57 : decode cX1_takesDigit 57 = .ok (.goto 5, 3) := by decide +kernel
theorem dX1_takesDigit_60 : decode cX1_takesDigit 60 = .ok (.bipush 15, 2) := by decide +kernel
theorem dX1_takesDigit_62 : decode cX1_takesDigit 62 = .ok (.if_icmp .le 5, 3) := by decide +kernel
theorem dX1_takesDigit_65 : decode cX1_takesDigit 65 = .ok (.iconst 0, 1) := by decide +kernel
theorem dX1_takesDigit_66 : decode cX1_takesDigit 66 = .ok (.ireturn, 1) := by decide +kernel
theorem dX1_takesDigit_67 : decode cX1_takesDigit 67 = .ok (.aload_n 0, 1) := by decide +kernel
theorem dX1_takesDigit_68 : decode cX1_takesDigit 68 = .ok (.iload_n 2, 1) := by decide +kernel
theorem dX1_takesDigit_69 : decode cX1_takesDigit 69 = .ok (.putfield 26, 3) := by decide +kernel
theorem dX1_takesDigit_72 : decode cX1_takesDigit 72 = .ok (.iconst 1, 1) := by decide +kernel
theorem dX1_takesDigit_73 : decode cX1_takesDigit 73 = .ok (.ireturn, 1) := by decide +kernel
theorem dX1_characterBehind_0 : decode cX1_characterBehind 0 = .ok (.aload_n 0, 1) := by decide +kernel
theorem dX1_characterBehind_1 : decode cX1_characterBehind 1 = .ok (.getfield 23, 3) := by decide +kernel
theorem dX1_characterBehind_4 : decode cX1_characterBehind 4 = .ok (.iconst 3, 1) := by decide +kernel
theorem dX1_characterBehind_5 : decode cX1_characterBehind 5 = .ok (.irem, 1) := by decide +kernel
theorem dX1_characterBehind_6 : decode cX1_characterBehind 6 = .ok (.lookupswitch 32 #[(0, 26), (1, 29)], 26) := by decide +kernel
theorem dX1_characterBehind_32 : decode cX1_characterBehind 32 = .ok (.bipush 45, 2) := by decide +kernel
theorem dX1_characterBehind_34 : decode cX1_characterBehind 34 = .ok (.ireturn, 1) := by decide +kernel
theorem dX1_characterBehind_35 : decode cX1_characterBehind 35 = .ok (.bipush 58, 2) := by decide +kernel
theorem dX1_characterBehind_37 : decode cX1_characterBehind 37 = .ok (.ireturn, 1) := by decide +kernel
theorem dX1_characterBehind_38 : decode cX1_characterBehind 38 = .ok (.bipush 59, 2) := by decide +kernel
theorem dX1_characterBehind_40 : decode cX1_characterBehind 40 = .ok (.ireturn, 1) := by decide +kernel
theorem dX1_keepNumber_0 : decode cX1_keepNumber 0 = .ok (.aload_n 0, 1) := by decide +kernel
theorem dX1_keepNumber_1 : decode cX1_keepNumber 1 = .ok (.getfield 23, 3) := by decide +kernel
theorem dX1_keepNumber_4 : decode cX1_keepNumber 4 = .ok (.bipush 80, 2) := by decide +kernel
theorem dX1_keepNumber_6 : decode cX1_keepNumber 6 = .ok (.if_icmp .ge 26, 3) := by decide +kernel
theorem dX1_keepNumber_9 : decode cX1_keepNumber 9 = .ok (.aload_n 0, 1) := by decide +kernel
theorem dX1_keepNumber_10 : decode cX1_keepNumber 10 = .ok (.getfield 19, 3) := by decide +kernel
theorem dX1_keepNumber_13 : decode cX1_keepNumber 13 = .ok (.aload_n 0, 1) := by decide +kernel
theorem dX1_keepNumber_14 : decode cX1_keepNumber 14 = .ok (.getfield 23, 3) := by decide +kernel
theorem dX1_keepNumber_17 : decode cX1_keepNumber 17 = .ok (.aload_n 0, 1) := by decide +kernel
theorem dX1_keepNumber_18 : decode cX1_keepNumber 18 = .ok (.getfield 26, 3) := by decide +kernel
theorem dX1_keepNumber_21 : decode cX1_keepNumber 21 = .ok (.iastore, 1) := by decide +kernel
theorem dX1_keepNumber_22 : decode cX1_keepNumber 22 = .ok (.aload_n 0, 1) := by decide +kernel
theorem dX1_keepNumber_23 : decode cX1_keepNumber 23 = .ok (.dup, 1) := by decide +kernel
theorem dX1_keepNumber_24 : decode cX1_keepNumber 24 = .ok (.getfield 23, 3) := by decide +kernel
theorem dX1_keepNumber_27 : decode cX1_keepNumber 27 = .ok (.iconst 1, 1) := by decide +kernel
theorem dX1_keepNumber_28 : decode cX1_keepNumber 28 = .ok (.iadd, 1) := by decide +kernel
theorem dX1_keepNumber_29 : decode cX1_keepNumber 29 = .ok (.putfield 23, 3) := by decide +kernel
theorem dX1_keepNumber_32 : decode cX1_keepNumber 32 = .ok (.aload_n 0, 1) := by decide +kernel
theorem dX1_keepNumber_33 : decode cX1_keepNumber 33 = .ok (.iconst (-1), 1) := by decide +kernel
theorem dX1_keepNumber_34 : decode cX1_keepNumber 34 = .ok (.putfield 26, 3) := by decide +kernel
theorem dX1_keepNumber_37 : decode cX1_keepNumber 37 = .ok (.return_, 1) := by decide +kernel
theorem dX2_init_0 : decode cX2_init 0 = .ok (.aload_n 0, 1) := by decide +kernel
theorem dX2_init_1 : decode cX2_init 1 = .ok (.invokespecial 3, 3) := by decide +kernel
theorem dX2_init_4 : decode cX2_init 4 = .ok (.aload_n 0, 1) := by decide +kernel
theorem dX2_init_5 : decode cX2_init 5 = .ok (.bipush 16, 2) := by decide +kernel
theorem dX2_init_7 : decode cX2_init 7 = .ok (.newarray .int, 2) := by decide +kernel
theorem dX2_init_9 : decode cX2_init 9 = .ok (.putfield 9, 3) := by decide +kernel
theorem dX2_init_12 : decode cX2_init 12 = .ok (.aload_n 0, 1) := by decide +kernel
theorem dX2_init_13 : decode cX2_init 13 = .ok (.bipush 16, 2) := by decide +kernel
theorem dX2_init_15 : decode cX2_init 15 = .ok (.newarray .int, 2) := by decide +kernel
theorem dX2_init_17 : decode cX2_init 17 = .ok (.putfield 15, 3) := by decide +kernel
theorem dX2_init_20 : decode cX2_init 20 = .ok (.aload_n 0, 1) := by decide +kernel
theorem dX2_init_21 : decode cX2_init 21 = .ok (.bipush 16, 2) := by decide +kernel
theorem dX2_init_23 : decode cX2_init 23 = .ok (.newarray .int, 2) := by decide +kernel
theorem dX2_init_25 : decode cX2_init 25 = .ok (.putfield 18, 3) := by decide +kernel
theorem dX2_init_28 : decode cX2_init 28 = .ok (.aload_n 0, 1) := by decide +kernel
theorem dX2_init_29 : decode cX2_init 29 = .ok (.bipush 30, 2) := by decide +kernel
theorem dX2_init_31 : decode cX2_init 31 = .ok (.newarray .int, 2) := by decide +kernel
theorem dX2_init_33 : decode cX2_init 33 = .ok (.putfield 21, 3) := by decide +kernel
theorem dX2_init_36 : decode cX2_init 36 = .ok (.aload_n 0, 1) := by decide +kernel
theorem dX2_init_37 : decode cX2_init 37 = .ok (.bipush 16, 2) := by decide +kernel
theorem dX2_init_39 : decode cX2_init 39 = .ok (.newarray .int, 2) := by decide +kernel
theorem dX2_init_41 : decode cX2_init 41 = .ok (.putfield 24, 3) := by decide +kernel
theorem dX2_init_44 : decode cX2_init 44 = .ok (.aload_n 0, 1) := by decide +kernel
theorem dX2_init_45 : decode cX2_init 45 = .ok (.aload_n 1, 1) := by decide +kernel
theorem dX2_init_46 : decode cX2_init 46 = .ok (.putfield 27, 3) := by decide +kernel
theorem dX2_init_49 : decode cX2_init 49 = .ok (.aload_n 0, 1) := by decide +kernel
theorem dX2_init_50 : decode cX2_init 50 = .ok (.invokevirtual 31, 3) := by decide +kernel
theorem dX2_init_53 : decode cX2_init 53 = .ok (.return_, 1) := by decide +kernel
theorem dX2_renew_0 : decode cX2_renew 0 = .ok (.aload_n 0, 1) := by decide +kernel
theorem dX2_renew_1 : decode cX2_renew 1 = .ok (.invokevirtual 34, 3) := by decide +kernel
theorem dX2_renew_4 : decode cX2_renew 4 = .ok (.aload_n 0, 1) := by decide +kernel
theorem dX2_renew_5 : decode cX2_renew 5 = .ok (.invokevirtual 37, 3) := by decide +kernel
theorem dX2_renew_8 : decode cX2_renew 8 = .ok (.aload_n 0, 1) := by decide +kernel
theorem dX2_renew_9 : decode cX2_renew 9 = .ok (.invokevirtual 40, 3) := by decide +kernel
theorem dX2_renew_12 : decode cX2_renew 12 = .ok (.return_, 1) := by decide +kernel
theorem dX2_findPieces_0 : decode cX2_findPieces 0 = .ok (.iconst 0, 1) := by decide +kernel
theorem dX2_findPieces_1 : decode cX2_findPieces 1 = .ok (.istore_n 1, 1) := by decide +kernel
theorem dX2_findPieces_2 : decode cX2_findPieces 2 = .ok (.aload_n 0, 1) := by decide +kernel
theorem dX2_findPieces_3 : decode cX2_findPieces 3 = .ok (.iconst 0, 1) := by decide +kernel
theorem dX2_findPieces_4 : decode cX2_findPieces 4 = .ok (.putfield 43, 3) := by decide +kernel
theorem dX2_findPieces_7 : decode cX2_findPieces 7 = .ok (.iconst 0, 1) := by decide +kernel
theorem dX2_findPieces_8 : decode cX2_findPieces 8 = .ok (.istore_n 2, 1) := by decide +kernel
theorem dX2_findPieces_9 : decode cX2_findPieces 9 = .ok (.iload_n 2, 1) := by decide +kernel
theorem dX2_findPieces_10 : decode cX2_findPieces 10 = .ok (.aload_n 0, 1) := by decide +kernel
theorem dX2_findPieces_11 : decode cX2_findPieces 11 = .ok (.getfield 27, 3) := by decide +kernel
theorem dX2_findPieces_14 : decode cX2_findPieces 14 = .ok (.getfield 47, 3) := by decide +kernel
theorem dX2_findPieces_17 : decode cX2_findPieces 17 = .ok (.if_icmp .ge 56, 3) := by decide +kernel
theorem dX2_findPieces_20 : decode cX2_findPieces 20 = .ok (.iload_n 1, 1) := by decide +kernel
theorem dX2_findPieces_21 : decode cX2_findPieces 21 = .ok (.iload_n 2, 1) := by decide +kernel
theorem dX2_findPieces_22 : decode cX2_findPieces 22 = .ok (.invokestatic 52, 3) := by decide +kernel
theorem dX2_findPieces_25 : decode cX2_findPieces 25 = .ok (.ifCond .ne 42, 3) := by decide +kernel
theorem dX2_findPieces_28 : decode cX2_findPieces 28 = .ok (.aload_n 0, 1) := by decide +kernel
theorem dX2_findPieces_29 : decode cX2_findPieces 29 = .ok (.getfield 27, 3) := by decide +kernel
theorem dX2_findPieces_32 : decode cX2_findPieces 32 = .ok (.iload_n 2, 1) := by decide +kernel
theorem dX2_findPieces_33 : decode cX2_findPieces 33 = .ok (.aload_n 0, 1) := by decide +kernel
theorem dX2_findPieces_34 : decode cX2_findPieces 34 = .ok (.getfield 27, 3) := by decide +kernel
theorem dX2_findPieces_37 : decode cX2_findPieces 37 = .ok (.invokevirtual 56, 3) := by decide +kernel
theorem dX2_findPieces_40 : decode cX2_findPieces 40 = .ok (.invokevirtual 60, 3) := by decide +kernel
theorem dX2_findPieces_43 : decode cX2_findPieces 43 = .ok (.istore_n 3, 1) := by decide +kernel
theorem dX2_findPieces_44 : decode cX2_findPieces 44 = .ok (.aload_n 0, 1) := by decide +kernel
theorem dX2_findPieces_45 : decode cX2_findPieces 45 = .ok (.getfield 9, 3) := by decide +kernel
theorem dX2_findPieces_48 : decode cX2_findPieces 48 = .ok (.iload_n 3, 1) := by decide +kernel
theorem dX2_findPieces_49 : decode cX2_findPieces 49 = .ok (.iload_n 3, 1) := by decide +kernel
theorem dX2_findPieces_50 : decode cX2_findPieces 50 = .ok (.invokestatic 64, 3) := by decide +kernel
theorem dX2_findPieces_53 : decode cX2_findPieces 53 = .ok (.iload_n 1, 1) := by decide +kernel
theorem dX2_findPieces_54 : decode cX2_findPieces 54 = .ok (.iload_n 3, 1) := by decide +kernel
theorem dX2_findPieces_55 : decode cX2_findPieces 55 = .ok (.ior, 1) := by decide +kernel
theorem dX2_findPieces_56 : decode cX2_findPieces 56 = .ok (.istore_n 1, 1) := by decide +kernel
theorem dX2_findPieces_57 : decode cX2_findPieces 57 = .ok (.aload_n 0, 1) := by decide +kernel
theorem dX2_findPieces_58 : decode cX2_findPieces 58 = .ok (.dup, 1) := by decide +kernel
theorem dX2_findPieces_59 : decode cX2_findPieces 59 = .ok (.getfield 43, 3) := by decide +kernel
theorem dX2_findPieces_62 : decode cX2_findPieces 62 = .ok (.iconst 1, 1) := by decide +kernel
theorem dX2_findPieces_63 : decode cX2_findPieces 63 = .ok (.iadd, 1) := by decide +kernel
theorem dX2_findPieces_64 : decode cX2_findPieces 64 = .ok (.putfield 43, 3) := by decide +kernel
theorem dX2_findPieces_67 : decode cX2_findPieces 67 = .ok (.iinc 2 1, 3) := by decide +kernel
theorem dX2_findPieces_70 : decode cX2_findPieces 70 = .ok (.goto (-61), 3) := by decide +kernel
theorem dX2_findPieces_73 : decode cX2_findPieces 73 = .ok (.return_, 1) := by decide +kernel
theorem dX2_findPartingRoads_0 : decode cX2_findPartingRoads 0 = .ok (.aload_n 0, 1) := by decide +kernel
theorem dX2_findPartingRoads_1 : decode cX2_findPartingRoads 1 = .ok (.iconst 0, 1) := by decide +kernel
theorem dX2_findPartingRoads_2 : decode cX2_findPartingRoads 2 = .ok (.putfield 68, 3) := by decide +kernel
theorem dX2_findPartingRoads_5 : decode cX2_findPartingRoads 5 = .ok (.iconst 0, 1) := by decide +kernel
theorem dX2_findPartingRoads_6 : decode cX2_findPartingRoads 6 = .ok (.istore_n 1, 1) := by decide +kernel
theorem dX2_findPartingRoads_7 : decode cX2_findPartingRoads 7 = .ok (.iload_n 1, 1) := by decide +kernel
theorem dX2_findPartingRoads_8 : decode cX2_findPartingRoads 8 = .ok (.aload_n 0, 1) := by decide +kernel
theorem dX2_findPartingRoads_9 : decode cX2_findPartingRoads 9 = .ok (.getfield 27, 3) := by decide +kernel
theorem dX2_findPartingRoads_12 : decode cX2_findPartingRoads 12 = .ok (.getfield 71, 3) := by decide +kernel
theorem dX2_findPartingRoads_15 : decode cX2_findPartingRoads 15 = .ok (.if_icmp .ge 77, 3) := by decide +kernel
theorem dX2_findPartingRoads_18 : decode cX2_findPartingRoads 18 = .ok (.aload_n 0, 1) := by decide +kernel
theorem dX2_findPartingRoads_19 : decode cX2_findPartingRoads 19 = .ok (.getfield 21, 3) := by decide +kernel
theorem dX2_findPartingRoads_22 : decode cX2_findPartingRoads 22 = .ok (.iload_n 1, 1) := by decide +kernel
theorem dX2_findPartingRoads_23 : decode cX2_findPartingRoads 23 = .ok (.aload_n 0, 1) := by decide +kernel
theorem dX2_findPartingRoads_24 : decode cX2_findPartingRoads 24 = .ok (.getfield 27, 3) := by decide +kernel
theorem dX2_findPartingRoads_27 : decode cX2_findPartingRoads 27 = .ok (.aload_n 0, 1) := by decide +kernel
theorem dX2_findPartingRoads_28 : decode cX2_findPartingRoads 28 = .ok (.getfield 27, 3) := by decide +kernel
theorem dX2_findPartingRoads_31 : decode cX2_findPartingRoads 31 = .ok (.getfield 74, 3) := by decide +kernel
theorem dX2_findPartingRoads_34 : decode cX2_findPartingRoads 34 = .ok (.iload_n 1, 1) := by decide +kernel
theorem dX2_findPartingRoads_35 : decode cX2_findPartingRoads 35 = .ok (.iaload, 1) := by decide +kernel
theorem dX2_findPartingRoads_36 : decode cX2_findPartingRoads 36 = .ok (.aload_n 0, 1) := by decide +kernel
theorem dX2_findPartingRoads_37 : decode cX2_findPartingRoads 37 = .ok (.getfield 27, 3) := by decide +kernel
theorem dX2_findPartingRoads_40 : decode cX2_findPartingRoads 40 = .ok (.invokevirtual 56, 3) := by decide +kernel
theorem dX2_findPartingRoads_43 : decode cX2_findPartingRoads 43 = .ok (.iconst 1, 1) := by decide +kernel
theorem dX2_findPartingRoads_44 : decode cX2_findPartingRoads 44 = .ok (.iload_n 1, 1) := by decide +kernel
theorem dX2_findPartingRoads_45 : decode cX2_findPartingRoads 45 = .ok (.ishl, 1) := by decide +kernel
theorem dX2_findPartingRoads_46 : decode cX2_findPartingRoads 46 = .ok (.iconst (-1), 1) := by decide +kernel
theorem dX2_findPartingRoads_47 : decode cX2_findPartingRoads 47 = .ok (.ixor, 1) := by decide +kernel
theorem dX2_findPartingRoads_48 : decode cX2_findPartingRoads 48 = .ok (.iand, 1) := by decide +kernel
theorem dX2_findPartingRoads_49 : decode cX2_findPartingRoads 49 = .ok (.invokevirtual 60, 3) := by decide +kernel
theorem dX2_findPartingRoads_52 : decode cX2_findPartingRoads 52 = .ok (.iastore, 1) := by decide +kernel
theorem dX2_findPartingRoads_53 : decode cX2_findPartingRoads 53 = .ok (.aload_n 0, 1) := by decide +kernel
theorem dX2_findPartingRoads_54 : decode cX2_findPartingRoads 54 = .ok (.getfield 21, 3) := by decide +kernel
theorem dX2_findPartingRoads_57 : decode cX2_findPartingRoads 57 = .ok (.iload_n 1, 1) := by decide +kernel
theorem dX2_findPartingRoads_58 : decode cX2_findPartingRoads 58 = .ok (.iaload, 1) := by decide +kernel
theorem dX2_findPartingRoads_59 : decode cX2_findPartingRoads 59 = .ok (.aload_n 0, 1) := by decide +kernel
theorem dX2_findPartingRoads_60 : decode cX2_findPartingRoads 60 = .ok (.getfield 27, 3) := by decide +kernel
theorem dX2_findPartingRoads_63 : decode cX2_findPartingRoads 63 = .ok (.getfield 77, 3) := by decide +kernel
theorem dX2_findPartingRoads_66 : decode cX2_findPartingRoads 66 = .ok (.iload_n 1, 1) := by decide +kernel
theorem dX2_findPartingRoads_67 : decode cX2_findPartingRoads 67 = .ok (.iaload, 1) := by decide +kernel
theorem dX2_findPartingRoads_68 : decode cX2_findPartingRoads 68 = .ok (.invokestatic 52, 3) := by decide +kernel
theorem dX2_findPartingRoads_71 : decode cX2_findPartingRoads 71 = .ok (.ifCond .ne 15, 3) := by decide +kernel
theorem dX2_findPartingRoads_74 : decode cX2_findPartingRoads 74 = .ok (.aload_n 0, 1) := by decide +kernel
theorem dX2_findPartingRoads_75 : decode cX2_findPartingRoads 75 = .ok (.dup, 1) := by decide +kernel
theorem dX2_findPartingRoads_76 : decode cX2_findPartingRoads 76 = .ok (.getfield 68, 3) := by decide +kernel
theorem dX2_findPartingRoads_79 : decode cX2_findPartingRoads 79 = .ok (.iconst 1, 1) := by decide +kernel
theorem dX2_findPartingRoads_80 : decode cX2_findPartingRoads 80 = .ok (.iload_n 1, 1) := by decide +kernel
theorem dX2_findPartingRoads_81 : decode cX2_findPartingRoads 81 = .ok (.ishl, 1) := by decide +kernel
theorem dX2_findPartingRoads_82 : decode cX2_findPartingRoads 82 = .ok (.ior, 1) := by decide +kernel
theorem dX2_findPartingRoads_83 : decode cX2_findPartingRoads 83 = .ok (.putfield 68, 3) := by decide +kernel
theorem dX2_findPartingRoads_86 : decode cX2_findPartingRoads 86 = .ok (.iinc 1 1, 3) := by decide +kernel
theorem dX2_findPartingRoads_89 : decode cX2_findPartingRoads 89 = .ok (.goto (-82), 3) := by decide +kernel
theorem dX2_findPartingRoads_92 : decode cX2_findPartingRoads 92 = .ok (.return_, 1) := by decide +kernel
theorem dX2_findDistricts_0 : decode cX2_findDistricts 0 = .ok (.iconst 0, 1) := by decide +kernel
theorem dX2_findDistricts_1 : decode cX2_findDistricts 1 = .ok (.istore_n 1, 1) := by decide +kernel
theorem dX2_findDistricts_2 : decode cX2_findDistricts 2 = .ok (.aload_n 0, 1) := by decide +kernel
theorem dX2_findDistricts_3 : decode cX2_findDistricts 3 = .ok (.iconst 0, 1) := by decide +kernel
theorem dX2_findDistricts_4 : decode cX2_findDistricts 4 = .ok (.putfield 80, 3) := by decide +kernel
theorem dX2_findDistricts_7 : decode cX2_findDistricts 7 = .ok (.iconst 0, 1) := by decide +kernel
theorem dX2_findDistricts_8 : decode cX2_findDistricts 8 = .ok (.istore_n 2, 1) := by decide +kernel
theorem dX2_findDistricts_9 : decode cX2_findDistricts 9 = .ok (.iload_n 2, 1) := by decide +kernel
theorem dX2_findDistricts_10 : decode cX2_findDistricts 10 = .ok (.aload_n 0, 1) := by decide +kernel
theorem dX2_findDistricts_11 : decode cX2_findDistricts 11 = .ok (.getfield 27, 3) := by decide +kernel
theorem dX2_findDistricts_14 : decode cX2_findDistricts 14 = .ok (.getfield 47, 3) := by decide +kernel
theorem dX2_findDistricts_17 : decode cX2_findDistricts 17 = .ok (.if_icmp .ge 76, 3) := by decide +kernel
theorem dX2_findDistricts_20 : decode cX2_findDistricts 20 = .ok (.iload_n 1, 1) := by decide +kernel
theorem dX2_findDistricts_21 : decode cX2_findDistricts 21 = .ok (.iload_n 2, 1) := by decide +kernel
theorem dX2_findDistricts_22 : decode cX2_findDistricts 22 = .ok (.invokestatic 52, 3) := by decide +kernel
theorem dX2_findDistricts_25 : decode cX2_findDistricts 25 = .ok (.ifCond .ne 62, 3) := by decide +kernel
theorem dX2_findDistricts_28 : decode cX2_findDistricts 28 = .ok (.aload_n 0, 1) := by decide +kernel
theorem dX2_findDistricts_29 : decode cX2_findDistricts 29 = .ok (.getfield 27, 3) := by decide +kernel
theorem dX2_findDistricts_32 : decode cX2_findDistricts 32 = .ok (.iload_n 2, 1) := by decide +kernel
theorem dX2_findDistricts_33 : decode cX2_findDistricts 33 = .ok (.aload_n 0, 1) := by decide +kernel
theorem dX2_findDistricts_34 : decode cX2_findDistricts 34 = .ok (.getfield 27, 3) := by decide +kernel
theorem dX2_findDistricts_37 : decode cX2_findDistricts 37 = .ok (.invokevirtual 56, 3) := by decide +kernel
theorem dX2_findDistricts_40 : decode cX2_findDistricts 40 = .ok (.aload_n 0, 1) := by decide +kernel
theorem dX2_findDistricts_41 : decode cX2_findDistricts 41 = .ok (.getfield 68, 3) := by decide +kernel
theorem dX2_findDistricts_44 : decode cX2_findDistricts 44 = .ok (.iconst (-1), 1) := by decide +kernel
theorem dX2_findDistricts_45 : decode cX2_findDistricts 45 = .ok (.ixor, 1) := by decide +kernel
theorem dX2_findDistricts_46 : decode cX2_findDistricts 46 = .ok (.iand, 1) := by decide +kernel
theorem dX2_findDistricts_47 : decode cX2_findDistricts 47 = .ok (.invokevirtual 60, 3) := by decide +kernel
theorem dX2_findDistricts_50 : decode cX2_findDistricts 50 = .ok (.istore_n 3, 1) := by decide +kernel
theorem dX2_findDistricts_51 : decode cX2_findDistricts 51 = .ok (.aload_n 0, 1) := by decide +kernel
theorem dX2_findDistricts_52 : decode cX2_findDistricts 52 = .ok (.getfield 15, 3) := by decide +kernel
theorem dX2_findDistricts_55 : decode cX2_findDistricts 55 = .ok (.iload_n 3, 1) := by decide +kernel
theorem dX2_findDistricts_56 : decode cX2_findDistricts 56 = .ok (.aload_n 0, 1) := by decide +kernel
theorem dX2_findDistricts_57 : decode cX2_findDistricts 57 = .ok (.getfield 80, 3) := by decide +kernel
theorem dX2_findDistricts_60 : decode cX2_findDistricts 60 = .ok (.invokestatic 64, 3) := by decide +kernel
theorem dX2_findDistricts_63 : decode cX2_findDistricts 63 = .ok (.aload_n 0, 1) := by decide +kernel
theorem dX2_findDistricts_64 : decode cX2_findDistricts 64 = .ok (.getfield 18, 3) := by decide +kernel
theorem dX2_findDistricts_67 : decode cX2_findDistricts 67 = .ok (.aload_n 0, 1) := by decide +kernel
theorem dX2_findDistricts_68 : decode cX2_findDistricts 68 = .ok (.getfield 80, 3) := by decide +kernel
theorem dX2_findDistricts_71 : decode cX2_findDistricts 71 = .ok (.iload_n 3, 1) := by decide +kernel
theorem dX2_findDistricts_72 : decode cX2_findDistricts 72 = .ok (.iastore, 1) := by decide +kernel
theorem dX2_findDistricts_73 : decode cX2_findDistricts 73 = .ok (.iload_n 1, 1) := by decide +kernel
theorem dX2_findDistricts_74 : decode cX2_findDistricts 74 = .ok (.iload_n 3, 1) := by decide +kernel
theorem dX2_findDistricts_75 : decode cX2_findDistricts 75 = .ok (.ior, 1) := by decide +kernel
theorem dX2_findDistricts_76 : decode cX2_findDistricts 76 = .ok (.istore_n 1, 1) := by decide +kernel
theorem dX2_findDistricts_77 : decode cX2_findDistricts 77 = .ok (.aload_n 0, 1) := by decide +kernel
theorem dX2_findDistricts_78 : decode cX2_findDistricts 78 = .ok (.dup, 1) := by decide +kernel
theorem dX2_findDistricts_79 : decode cX2_findDistricts 79 = .ok (.getfield 80, 3) := by decide +kernel
theorem dX2_findDistricts_82 : decode cX2_findDistricts 82 = .ok (.iconst 1, 1) := by decide +kernel
theorem dX2_findDistricts_83 : decode cX2_findDistricts 83 = .ok (.iadd, 1) := by decide +kernel
theorem dX2_findDistricts_84 : decode cX2_findDistricts 84 = .ok (.putfield 80, 3) := by decide +kernel
theorem dX2_findDistricts_87 : decode cX2_findDistricts 87 = .ok (.iinc 2 1, 3) := by decide +kernel
theorem dX2_findDistricts_90 : decode cX2_findDistricts 90 = .ok (.goto (-81), 3) := by decide +kernel
theorem dX2_findDistricts_93 : decode cX2_findDistricts 93 = .ok (.return_, 1) := by decide +kernel
theorem dX2_hangTogether_0 : decode cX2_hangTogether 0 = .ok (.aload_n 0, 1) := by decide +kernel
theorem dX2_hangTogether_1 : decode cX2_hangTogether 1 = .ok (.getfield 9, 3) := by decide +kernel
theorem dX2_hangTogether_4 : decode cX2_hangTogether 4 = .ok (.iload_n 1, 1) := by decide +kernel
theorem dX2_hangTogether_5 : decode cX2_hangTogether 5 = .ok (.iaload, 1) := by decide +kernel
theorem dX2_hangTogether_6 : decode cX2_hangTogether 6 = .ok (.iload_n 2, 1) := by decide +kernel
theorem dX2_hangTogether_7 : decode cX2_hangTogether 7 = .ok (.invokestatic 52, 3) := by decide +kernel
theorem dX2_hangTogether_10 : decode cX2_hangTogether 10 = .ok (.ireturn, 1) := by decide +kernel
theorem dX2_squaresBehind_0 : decode cX2_squaresBehind 0 = .ok (.aload_n 0, 1) := by decide +kernel
theorem dX2_squaresBehind_1 : decode cX2_squaresBehind 1 = .ok (.getfield 21, 3) := by decide +kernel
theorem dX2_squaresBehind_4 : decode cX2_squaresBehind 4 = .ok (.iload_n 2, 1) := by decide +kernel
theorem dX2_squaresBehind_5 : decode cX2_squaresBehind 5 = .ok (.iaload, 1) := by decide +kernel
theorem dX2_squaresBehind_6 : decode cX2_squaresBehind 6 = .ok (.istore_n 3, 1) := by decide +kernel
theorem dX2_squaresBehind_7 : decode cX2_squaresBehind 7 = .ok (.aload_n 0, 1) := by decide +kernel
theorem dX2_squaresBehind_8 : decode cX2_squaresBehind 8 = .ok (.getfield 9, 3) := by decide +kernel
theorem dX2_squaresBehind_11 : decode cX2_squaresBehind 11 = .ok (.iload_n 1, 1) := by decide +kernel
theorem dX2_squaresBehind_12 : decode cX2_squaresBehind 12 = .ok (.iaload, 1) := by decide +kernel
theorem dX2_squaresBehind_13 : decode cX2_squaresBehind 13 = .ok (.iload_n 3, 1) := by decide +kernel
theorem dX2_squaresBehind_14 : decode cX2_squaresBehind 14 = .ok (.iload_n 1, 1) := by decide +kernel
theorem dX2_squaresBehind_15 : decode cX2_squaresBehind 15 = .ok (.invokestatic 52, 3) := by decide +kernel
theorem dX2_squaresBehind_18 : decode cX2_squaresBehind 18 = .ok (.ifCond .eq 9, 3) := by decide +kernel
theorem dX2_squaresBehind_21 : decode cX2_squaresBehind 21 = .ok (.iload_n 3, 1) := by decide +kernel
theorem dX2_squaresBehind_22 : decode cX2_squaresBehind 22 = .ok (.iconst (-1), 1) := by decide +kernel
theorem dX2_squaresBehind_23 : decode cX2_squaresBehind 23 = .ok (.ixor, 1) := by decide +kernel
theorem dX2_squaresBehind_24 : decode cX2_squaresBehind 24 = .ok (.goto 4, 3) := by decide +kernel
theorem dX2_squaresBehind_27 : decode cX2_squaresBehind 27 = .ok (.iload_n 3, 1) := by decide +kernel
theorem dX2_squaresBehind_28 : decode cX2_squaresBehind 28 = .ok (.iand, 1) := by decide +kernel
theorem dX2_squaresBehind_29 : decode cX2_squaresBehind 29 = .ok (.ireturn, 1) := by decide +kernel
theorem dX2_pairsParted_0 : decode cX2_pairsParted 0 = .ok (.aload_n 0, 1) := by decide +kernel
theorem dX2_pairsParted_1 : decode cX2_pairsParted 1 = .ok (.getfield 27, 3) := by decide +kernel
theorem dX2_pairsParted_4 : decode cX2_pairsParted 4 = .ok (.getfield 74, 3) := by decide +kernel
theorem dX2_pairsParted_7 : decode cX2_pairsParted 7 = .ok (.iload_n 1, 1) := by decide +kernel
theorem dX2_pairsParted_8 : decode cX2_pairsParted 8 = .ok (.iaload, 1) := by decide +kernel
theorem dX2_pairsParted_9 : decode cX2_pairsParted 9 = .ok (.istore_n 2, 1) := by decide +kernel
theorem dX2_pairsParted_10 : decode cX2_pairsParted 10 = .ok (.aload_n 0, 1) := by decide +kernel
theorem dX2_pairsParted_11 : decode cX2_pairsParted 11 = .ok (.iload_n 2, 1) := by decide +kernel
theorem dX2_pairsParted_12 : decode cX2_pairsParted 12 = .ok (.iload_n 1, 1) := by decide +kernel
theorem dX2_pairsParted_13 : decode cX2_pairsParted 13 = .ok (.invokevirtual 83, 3) := by decide +kernel
theorem dX2_pairsParted_16 : decode cX2_pairsParted 16 = .ok (.invokestatic 86, 3) := by decide +kernel
theorem dX2_pairsParted_19 : decode cX2_pairsParted 19 = .ok (.istore_n 3, 1) := by decide +kernel
theorem dX2_pairsParted_20 : decode cX2_pairsParted 20 = .ok (.iload_n 3, 1) := by decide +kernel
theorem dX2_pairsParted_21 : decode cX2_pairsParted 21 = .ok (.aload_n 0, 1) := by decide +kernel
theorem dX2_pairsParted_22 : decode cX2_pairsParted 22 = .ok (.getfield 9, 3) := by decide +kernel
theorem dX2_pairsParted_25 : decode cX2_pairsParted 25 = .ok (.iload_n 2, 1) := by decide +kernel
theorem dX2_pairsParted_26 : decode cX2_pairsParted 26 = .ok (.iaload, 1) := by decide +kernel
theorem dX2_pairsParted_27 : decode cX2_pairsParted 27 = .ok (.invokestatic 86, 3) := by decide +kernel
theorem dX2_pairsParted_30 : decode cX2_pairsParted 30 = .ok (.iload_n 3, 1) := by decide +kernel
theorem dX2_pairsParted_31 : decode cX2_pairsParted 31 = .ok (.isub, 1) := by decide +kernel
theorem dX2_pairsParted_32 : decode cX2_pairsParted 32 = .ok (.imul, 1) := by decide +kernel
theorem dX2_pairsParted_33 : decode cX2_pairsParted 33 = .ok (.ireturn, 1) := by decide +kernel
theorem dX2_roadsBetween_0 : decode cX2_roadsBetween 0 = .ok (.iconst 0, 1) := by decide +kernel
theorem dX2_roadsBetween_1 : decode cX2_roadsBetween 1 = .ok (.istore_n 3, 1) := by decide +kernel
theorem dX2_roadsBetween_2 : decode cX2_roadsBetween 2 = .ok (.iconst 0, 1) := by decide +kernel
theorem dX2_roadsBetween_3 : decode cX2_roadsBetween 3 = .ok (.istore 4, 2) := by decide +kernel
theorem dX2_roadsBetween_5 : decode cX2_roadsBetween 5 = .ok (.iload 4, 2) := by decide +kernel
theorem dX2_roadsBetween_7 : decode cX2_roadsBetween 7 = .ok (.aload_n 0, 1) := by decide +kernel
theorem dX2_roadsBetween_8 : decode cX2_roadsBetween 8 = .ok (.getfield 27, 3) := by decide +kernel
theorem dX2_roadsBetween_11 : decode cX2_roadsBetween 11 = .ok (.getfield 71, 3) := by decide +kernel
theorem dX2_roadsBetween_14 : decode cX2_roadsBetween 14 = .ok (.if_icmp .ge 30, 3) := by decide +kernel
theorem dX2_roadsBetween_17 : decode cX2_roadsBetween 17 = .ok (.aload_n 0, 1) := by decide +kernel
theorem dX2_roadsBetween_18 : decode cX2_roadsBetween 18 = .ok (.iload_n 1, 1) := by decide +kernel
theorem dX2_roadsBetween_19 : decode cX2_roadsBetween 19 = .ok (.iload 4, 2) := by decide +kernel
theorem dX2_roadsBetween_21 : decode cX2_roadsBetween 21 = .ok (.invokevirtual 83, 3) := by decide +kernel
theorem dX2_roadsBetween_24 : decode cX2_roadsBetween 24 = .ok (.iload_n 2, 1) := by decide +kernel
theorem dX2_roadsBetween_25 : decode cX2_roadsBetween 25 = .ok (.invokestatic 52, 3) := by decide +kernel
theorem dX2_roadsBetween_28 : decode cX2_roadsBetween 28 = .ok (.ifCond .eq 10, 3) := by decide +kernel
theorem dX2_roadsBetween_31 : decode cX2_roadsBetween 31 = .ok (.iload_n 3, 1) := by decide +kernel
theorem dX2_roadsBetween_32 : decode cX2_roadsBetween 32 = .ok (.iconst 1, 1) := by decide +kernel
theorem dX2_roadsBetween_33 : decode cX2_roadsBetween 33 = .ok (.iload 4, 2) := by decide +kernel
theorem dX2_roadsBetween_35 : decode cX2_roadsBetween 35 = .ok (.ishl, 1) := by decide +kernel
theorem dX2_roadsBetween_36 : decode cX2_roadsBetween 36 = .ok (.ior, 1) := by decide +kernel
theorem dX2_roadsBetween_37 : decode cX2_roadsBetween 37 = .ok (.istore_n 3, 1) := by decide +kernel
theorem dX2_roadsBetween_38 : decode cX2_roadsBetween 38 = .ok (.iinc 4 1, 3) := by decide +kernel
theorem dX2_roadsBetween_41 : decode cX2_roadsBetween 41 = .ok (.goto (-36), 3) := by decide +kernel
theorem dX2_roadsBetween_44 : decode cX2_roadsBetween 44 = .ok (.iload_n 3, 1) := by decide +kernel
theorem dX2_roadsBetween_45 : decode cX2_roadsBetween 45 = .ok (.ireturn, 1) := by decide +kernel
theorem dX2_roadOnWay_0 : decode cX2_roadOnWay 0 = .ok (.aload_n 0, 1) := by decide +kernel
theorem dX2_roadOnWay_1 : decode cX2_roadOnWay 1 = .ok (.iload_n 1, 1) := by decide +kernel
theorem dX2_roadOnWay_2 : decode cX2_roadOnWay 2 = .ok (.iload_n 2, 1) := by decide +kernel
theorem dX2_roadOnWay_3 : decode cX2_roadOnWay 3 = .ok (.invokevirtual 92, 3) := by decide +kernel
theorem dX2_roadOnWay_6 : decode cX2_roadOnWay 6 = .ok (.istore 4, 2) := by decide +kernel
theorem dX2_roadOnWay_8 : decode cX2_roadOnWay 8 = .ok (.iconst 0, 1) := by decide +kernel
theorem dX2_roadOnWay_9 : decode cX2_roadOnWay 9 = .ok (.istore 5, 2) := by decide +kernel
theorem dX2_roadOnWay_11 : decode cX2_roadOnWay 11 = .ok (.iload 5, 2) := by decide +kernel
theorem dX2_roadOnWay_13 : decode cX2_roadOnWay 13 = .ok (.aload_n 0, 1) := by decide +kernel
theorem dX2_roadOnWay_14 : decode cX2_roadOnWay 14 = .ok (.getfield 27, 3) := by decide +kernel
theorem dX2_roadOnWay_17 : decode cX2_roadOnWay 17 = .ok (.getfield 71, 3) := by decide +kernel
theorem dX2_roadOnWay_20 : decode cX2_roadOnWay 20 = .ok (.if_icmp .ge 35, 3) := by decide +kernel
theorem dX2_roadOnWay_23 : decode cX2_roadOnWay 23 = .ok (.iload 4, 2) := by decide +kernel
theorem dX2_roadOnWay_25 : decode cX2_roadOnWay 25 = .ok (.iload 5, 2) := by decide +kernel
theorem dX2_roadOnWay_27 : decode cX2_roadOnWay 27 = .ok (.invokestatic 52, 3) := by decide +kernel
theorem dX2_roadOnWay_30 : decode cX2_roadOnWay 30 = .ok (.ifCond .eq 19, 3) := by decide +kernel
theorem dX2_roadOnWay_33 : decode cX2_roadOnWay 33 = .ok (.aload_n 0, 1) := by decide +kernel
theorem dX2_roadOnWay_34 : decode cX2_roadOnWay 34 = .ok (.iload_n 1, 1) := by decide +kernel
theorem dX2_roadOnWay_35 : decode cX2_roadOnWay 35 = .ok (.iload 5, 2) := by decide +kernel
theorem dX2_roadOnWay_37 : decode cX2_roadOnWay 37 = .ok (.iload 4, 2) := by decide +kernel
theorem dX2_roadOnWay_39 : decode cX2_roadOnWay 39 = .ok (.invokevirtual 95, 3) := by decide +kernel
theorem dX2_roadOnWay_42 : decode cX2_roadOnWay 42 = .ok (.iload_n 3, 1) := by decide +kernel
theorem dX2_roadOnWay_43 : decode cX2_roadOnWay 43 = .ok (.if_icmp .ne 6, 3) := by decide +kernel
theorem dX2_roadOnWay_46 : decode cX2_roadOnWay 46 = .ok (.iload 5, 2) := by decide +kernel
theorem dX2_roadOnWay_48 : decode cX2_roadOnWay 48 = .ok (.ireturn, 1) := by decide +kernel
theorem dX2_roadOnWay_49 : decode cX2_roadOnWay 49 = .ok (.iinc 5 1, 3) := by decide +kernel
theorem dX2_roadOnWay_52 : decode cX2_roadOnWay 52 = .ok (.goto (-41), 3) := by decide +kernel
theorem dX2_roadOnWay_55 : decode cX2_roadOnWay 55 = .ok (.bipush (-6), 2) := by decide +kernel
theorem dX2_roadOnWay_57 : decode cX2_roadOnWay 57 = .ok (.ireturn, 1) := by decide +kernel
theorem dX2_roadsAhead_0 : decode cX2_roadsAhead 0 = .ok (.aload_n 0, 1) := by decide +kernel
theorem dX2_roadsAhead_1 : decode cX2_roadsAhead 1 = .ok (.iload_n 1, 1) := by decide +kernel
theorem dX2_roadsAhead_2 : decode cX2_roadsAhead 2 = .ok (.iload_n 2, 1) := by decide +kernel
theorem dX2_roadsAhead_3 : decode cX2_roadsAhead 3 = .ok (.invokevirtual 83, 3) := by decide +kernel
theorem dX2_roadsAhead_6 : decode cX2_roadsAhead 6 = .ok (.invokestatic 86, 3) := by decide +kernel
theorem dX2_roadsAhead_9 : decode cX2_roadsAhead 9 = .ok (.istore 4, 2) := by decide +kernel
theorem dX2_roadsAhead_11 : decode cX2_roadsAhead 11 = .ok (.iconst 0, 1) := by decide +kernel
theorem dX2_roadsAhead_12 : decode cX2_roadsAhead 12 = .ok (.istore 5, 2) := by decide +kernel
theorem dX2_roadsAhead_14 : decode cX2_roadsAhead 14 = .ok (.iconst 0, 1) := by decide +kernel
theorem dX2_roadsAhead_15 : decode cX2_roadsAhead 15 = .ok (.istore 6, 2) := by decide +kernel
theorem dX2_roadsAhead_17 : decode cX2_roadsAhead 17 = .ok (.iload 6, 2) := by decide +kernel
theorem dX2_roadsAhead_19 : decode cX2_roadsAhead 19 = .ok (.aload_n 0, 1) := by decide +kernel
theorem dX2_roadsAhead_20 : decode cX2_roadsAhead 20 = .ok (.getfield 27, 3) := by decide +kernel
theorem dX2_roadsAhead_23 : decode cX2_roadsAhead 23 = .ok (.getfield 71, 3) := by decide +kernel
theorem dX2_roadsAhead_26 : decode cX2_roadsAhead 26 = .ok (.if_icmp .ge 36, 3) := by decide +kernel
theorem dX2_roadsAhead_29 : decode cX2_roadsAhead 29 = .ok (.iload_n 3, 1) := by decide +kernel
theorem dX2_roadsAhead_30 : decode cX2_roadsAhead 30 = .ok (.iload 6, 2) := by decide +kernel
theorem dX2_roadsAhead_32 : decode cX2_roadsAhead 32 = .ok (.invokestatic 52, 3) := by decide +kernel
theorem dX2_roadsAhead_35 : decode cX2_roadsAhead 35 = .ok (.ifCond .eq 21, 3) := by decide +kernel
theorem dX2_roadsAhead_38 : decode cX2_roadsAhead 38 = .ok (.aload_n 0, 1) := by decide +kernel
theorem dX2_roadsAhead_39 : decode cX2_roadsAhead 39 = .ok (.iload_n 1, 1) := by decide +kernel
theorem dX2_roadsAhead_40 : decode cX2_roadsAhead 40 = .ok (.iload 6, 2) := by decide +kernel
theorem dX2_roadsAhead_42 : decode cX2_roadsAhead 42 = .ok (.invokevirtual 83, 3) := by decide +kernel
theorem dX2_roadsAhead_45 : decode cX2_roadsAhead 45 = .ok (.invokestatic 86, 3) := by decide +kernel
theorem dX2_roadsAhead_48 : decode cX2_roadsAhead 48 = .ok (.iload 4, 2) := by decide +kernel
theorem dX2_roadsAhead_50 : decode cX2_roadsAhead 50 = .ok (.if_icmp .le 6, 3) := by decide +kernel
theorem dX2_roadsAhead_53 : decode cX2_roadsAhead 53 = .ok (.iinc 5 1, 3) := by decide +kernel
theorem dX2_roadsAhead_56 : decode cX2_roadsAhead 56 = .ok (.iinc 6 1, 3) := by decide +kernel
theorem dX2_roadsAhead_59 : decode cX2_roadsAhead 59 = .ok (.goto (-42), 3) := by decide +kernel
theorem dX2_roadsAhead_62 : decode cX2_roadsAhead 62 = .ok (.iload 5, 2) := by decide +kernel
theorem dX2_roadsAhead_64 : decode cX2_roadsAhead 64 = .ok (.ireturn, 1) := by decide +kernel
theorem dX2_partingRoadsAfter_0 : decode cX2_partingRoadsAfter 0 = .ok (.aload_n 0, 1) := by decide +kernel
theorem dX2_partingRoadsAfter_1 : decode cX2_partingRoadsAfter 1 = .ok (.getfield 68, 3) := by decide +kernel
theorem dX2_partingRoadsAfter_4 : decode cX2_partingRoadsAfter 4 = .ok (.invokestatic 86, 3) := by decide +kernel
theorem dX2_partingRoadsAfter_7 : decode cX2_partingRoadsAfter 7 = .ok (.istore_n 3, 1) := by decide +kernel
theorem dX2_partingRoadsAfter_8 : decode cX2_partingRoadsAfter 8 = .ok (.aload_n 0, 1) := by decide +kernel
theorem dX2_partingRoadsAfter_9 : decode cX2_partingRoadsAfter 9 = .ok (.iload_n 1, 1) := by decide +kernel
theorem dX2_partingRoadsAfter_10 : decode cX2_partingRoadsAfter 10 = .ok (.iload_n 2, 1) := by decide +kernel
theorem dX2_partingRoadsAfter_11 : decode cX2_partingRoadsAfter 11 = .ok (.invokevirtual 99, 3) := by decide +kernel
theorem dX2_partingRoadsAfter_14 : decode cX2_partingRoadsAfter 14 = .ok (.ifCond .eq 17, 3) := by decide +kernel
theorem dX2_partingRoadsAfter_17 : decode cX2_partingRoadsAfter 17 = .ok (.iload_n 3, 1) := by decide +kernel
theorem dX2_partingRoadsAfter_18 : decode cX2_partingRoadsAfter 18 = .ok (.aload_n 0, 1) := by decide +kernel
theorem dX2_partingRoadsAfter_19 : decode cX2_partingRoadsAfter 19 = .ok (.iload_n 1, 1) := by decide +kernel
theorem dX2_partingRoadsAfter_20 : decode cX2_partingRoadsAfter 20 = .ok (.iload_n 2, 1) := by decide +kernel
theorem dX2_partingRoadsAfter_21 : decode cX2_partingRoadsAfter 21 = .ok (.invokevirtual 92, 3) := by decide +kernel
theorem dX2_partingRoadsAfter_24 : decode cX2_partingRoadsAfter 24 = .ok (.invokestatic 86, 3) := by decide +kernel
theorem dX2_partingRoadsAfter_27 : decode cX2_partingRoadsAfter 27 = .ok (.isub, 1) := by decide +kernel
theorem dX2_partingRoadsAfter_28 : decode cX2_partingRoadsAfter 28 = .ok (.goto 6, 3) := by decide +kernel
theorem dX2_partingRoadsAfter_31 : decode cX2_partingRoadsAfter 31 = .ok (.iload_n 3, 1) := by decide +kernel
theorem dX2_partingRoadsAfter_32 : decode cX2_partingRoadsAfter 32 = .ok (.iconst 1, 1) := by decide +kernel
theorem dX2_partingRoadsAfter_33 : decode cX2_partingRoadsAfter 33 = .ok (.iadd, 1) := by decide +kernel
theorem dX2_partingRoadsAfter_34 : decode cX2_partingRoadsAfter 34 = .ok (.ireturn, 1) := by decide +kernel
theorem dX2_morePiecesWithout_0 : decode cX2_morePiecesWithout 0 = .ok (.aload_n 0, 1) := by decide +kernel
theorem dX2_morePiecesWithout_1 : decode cX2_morePiecesWithout 1 = .ok (.getfield 9, 3) := by decide +kernel
theorem dX2_morePiecesWithout_4 : decode cX2_morePiecesWithout 4 = .ok (.iload_n 1, 1) := by decide +kernel
theorem dX2_morePiecesWithout_5 : decode cX2_morePiecesWithout 5 = .ok (.iaload, 1) := by decide +kernel
theorem dX2_morePiecesWithout_6 : decode cX2_morePiecesWithout 6 = .ok (.iconst 1, 1) := by decide +kernel
theorem dX2_morePiecesWithout_7 : decode cX2_morePiecesWithout 7 = .ok (.iload_n 1, 1) := by decide +kernel
theorem dX2_morePiecesWithout_8 : decode cX2_morePiecesWithout 8 = .ok (.ishl, 1) := by decide +kernel
theorem dX2_morePiecesWithout_9 : decode cX2_morePiecesWithout 9 = .ok (.iconst (-1), 1) := by decide +kernel
theorem dX2_morePiecesWithout_10 : decode cX2_morePiecesWithout 10 = .ok (.ixor, 1) := by decide +kernel
theorem dX2_morePiecesWithout_11 : decode cX2_morePiecesWithout 11 = .ok (.iand, 1) := by decide +kernel
theorem dX2_morePiecesWithout_12 : decode cX2_morePiecesWithout 12 = .ok (.istore_n 2, 1) := by decide +kernel
theorem dX2_morePiecesWithout_13 : decode cX2_morePiecesWithout 13 = .ok (.aload_n 0, 1) := by decide +kernel
theorem dX2_morePiecesWithout_14 : decode cX2_morePiecesWithout 14 = .ok (.getfield 27, 3) := by decide +kernel
theorem dX2_morePiecesWithout_17 : decode cX2_morePiecesWithout 17 = .ok (.invokevirtual 56, 3) := by decide +kernel
theorem dX2_morePiecesWithout_20 : decode cX2_morePiecesWithout 20 = .ok (.aload_n 0, 1) := by decide +kernel
theorem dX2_morePiecesWithout_21 : decode cX2_morePiecesWithout 21 = .ok (.getfield 27, 3) := by decide +kernel
theorem dX2_morePiecesWithout_24 : decode cX2_morePiecesWithout 24 = .ok (.iload_n 1, 1) := by decide +kernel
theorem dX2_morePiecesWithout_25 : decode cX2_morePiecesWithout 25 = .ok (.invokevirtual 102, 3) := by decide +kernel
theorem dX2_morePiecesWithout_28 : decode cX2_morePiecesWithout 28 = .ok (.iconst (-1), 1) := by decide +kernel
theorem dX2_morePiecesWithout_29 : decode cX2_morePiecesWithout 29 = .ok (.ixor, 1) := by decide +kernel
theorem dX2_morePiecesWithout_30 : decode cX2_morePiecesWithout 30 = .ok (.iand, 1) := by decide +kernel
theorem dX2_morePiecesWithout_31 : decode cX2_morePiecesWithout 31 = .ok (.istore_n 3, 1) := by decide +kernel
theorem dX2_morePiecesWithout_32 : decode cX2_morePiecesWithout 32 = .ok (.iconst 0, 1) := by decide +kernel
theorem dX2_morePiecesWithout_33 : decode cX2_morePiecesWithout 33 = .ok (.istore 4, 2) := by decide +kernel
theorem dX2_morePiecesWithout_35 : decode cX2_morePiecesWithout 35 = .ok (.iconst 0, 1) := by decide +kernel
theorem dX2_morePiecesWithout_36 : decode cX2_morePiecesWithout 36 = .ok (.istore 5, 2) := by decide +kernel
theorem dX2_morePiecesWithout_38 : decode cX2_morePiecesWithout 38 = .ok (.iload 5, 2) := by decide +kernel
theorem dX2_morePiecesWithout_40 : decode cX2_morePiecesWithout 40 = .ok (.aload_n 0, 1) := by decide +kernel
theorem dX2_morePiecesWithout_41 : decode cX2_morePiecesWithout 41 = .ok (.getfield 27, 3) := by decide +kernel
theorem dX2_morePiecesWithout_44 : decode cX2_morePiecesWithout 44 = .ok (.getfield 47, 3) := by decide +kernel
theorem dX2_morePiecesWithout_47 : decode cX2_morePiecesWithout 47 = .ok (.if_icmp .ge 36, 3) := by decide +kernel
theorem dX2_morePiecesWithout_50 : decode cX2_morePiecesWithout 50 = .ok (.iload_n 2, 1) := by decide +kernel
theorem dX2_morePiecesWithout_51 : decode cX2_morePiecesWithout 51 = .ok (.iload 5, 2) := by decide +kernel
theorem dX2_morePiecesWithout_53 : decode cX2_morePiecesWithout 53 = .ok (.invokestatic 52, 3) := by decide +kernel
theorem dX2_morePiecesWithout_56 : decode cX2_morePiecesWithout 56 = .ok (.ifCond .eq 21, 3) := by decide +kernel
theorem dX2_morePiecesWithout_59 : decode cX2_morePiecesWithout 59 = .ok (.iload_n 2, 1) := by decide +kernel
theorem dX2_morePiecesWithout_60 : decode cX2_morePiecesWithout 60 = .ok (.aload_n 0, 1) := by decide +kernel
theorem dX2_morePiecesWithout_61 : decode cX2_morePiecesWithout 61 = .ok (.getfield 27, 3) := by decide +kernel
theorem dX2_morePiecesWithout_64 : decode cX2_morePiecesWithout 64 = .ok (.iload 5, 2) := by decide +kernel
theorem dX2_morePiecesWithout_66 : decode cX2_morePiecesWithout 66 = .ok (.iload_n 3, 1) := by decide +kernel
theorem dX2_morePiecesWithout_67 : decode cX2_morePiecesWithout 67 = .ok (.invokevirtual 60, 3) := by decide +kernel
theorem dX2_morePiecesWithout_70 : decode cX2_morePiecesWithout 70 = .ok (.iconst (-1), 1) := by decide +kernel
theorem dX2_morePiecesWithout_71 : decode cX2_morePiecesWithout 71 = .ok (.ixor, 1) := by decide +kernel
theorem dX2_morePiecesWithout_72 : decode cX2_morePiecesWithout 72 = .ok (.iand, 1) := by decide +kernel
theorem dX2_morePiecesWithout_73 : decode cX2_morePiecesWithout 73 = .ok (.istore_n 2, 1) := by decide +kernel
theorem dX2_morePiecesWithout_74 : decode cX2_morePiecesWithout 74 = .ok (.iinc 4 1, 3) := by decide +kernel
theorem dX2_morePiecesWithout_77 : decode cX2_morePiecesWithout 77 = .ok (.iinc 5 1, 3) := by decide +kernel
theorem dX2_morePiecesWithout_80 : decode cX2_morePiecesWithout 80 = .ok (.goto (-42), 3) := by decide +kernel
theorem dX2_morePiecesWithout_83 : decode cX2_morePiecesWithout 83 = .ok (.iload 4, 2) := by decide +kernel
theorem dX2_morePiecesWithout_85 : decode cX2_morePiecesWithout 85 = .ok (.iconst 1, 1) := by decide +kernel
theorem dX2_morePiecesWithout_86 : decode cX2_morePiecesWithout 86 = .ok (.isub, 1) := by decide +kernel
theorem dX2_morePiecesWithout_87 : decode cX2_morePiecesWithout 87 = .ok (.iconst 0, 1) := by decide +kernel
theorem dX2_morePiecesWithout_88 : decode cX2_morePiecesWithout 88 = .ok (.invokestatic 105, 3) := by decide +kernel
theorem dX2_morePiecesWithout_91 : decode cX2_morePiecesWithout 91 = .ok (.ireturn, 1) := by decide +kernel
theorem dX2_partingSquares_0 : decode cX2_partingSquares 0 = .ok (.iconst 0, 1) := by decide +kernel
theorem dX2_partingSquares_1 : decode cX2_partingSquares 1 = .ok (.istore_n 1, 1) := by decide +kernel
theorem dX2_partingSquares_2 : decode cX2_partingSquares 2 = .ok (.iconst 0, 1) := by decide +kernel
theorem dX2_partingSquares_3 : decode cX2_partingSquares 3 = .ok (.istore_n 2, 1) := by decide +kernel
theorem dX2_partingSquares_4 : decode cX2_partingSquares 4 = .ok (.iload_n 2, 1) := by decide +kernel
theorem dX2_partingSquares_5 : decode cX2_partingSquares 5 = .ok (.aload_n 0, 1) := by decide +kernel
theorem dX2_partingSquares_6 : decode cX2_partingSquares 6 = .ok (.getfield 27, 3) := by decide +kernel
theorem dX2_partingSquares_9 : decode cX2_partingSquares 9 = .ok (.getfield 47, 3) := by decide +kernel
theorem dX2_partingSquares_12 : decode cX2_partingSquares 12 = .ok (.if_icmp .ge 20, 3) := by decide +kernel
theorem dX2_partingSquares_15 : decode cX2_partingSquares 15 = .ok (.aload_n 0, 1) := by decide +kernel
theorem dX2_partingSquares_16 : decode cX2_partingSquares 16 = .ok (.iload_n 2, 1) := by decide +kernel
theorem dX2_partingSquares_17 : decode cX2_partingSquares 17 = .ok (.invokevirtual 110, 3) := by decide +kernel
theorem dX2_partingSquares_20 : decode cX2_partingSquares 20 = .ok (.ifCond .le 6, 3) := by decide +kernel
theorem dX2_partingSquares_23 : decode cX2_partingSquares 23 = .ok (.iinc 1 1, 3) := by decide +kernel
theorem dX2_partingSquares_26 : decode cX2_partingSquares 26 = .ok (.iinc 2 1, 3) := by decide +kernel
theorem dX2_partingSquares_29 : decode cX2_partingSquares 29 = .ok (.goto (-25), 3) := by decide +kernel
theorem dX2_partingSquares_32 : decode cX2_partingSquares 32 = .ok (.iload_n 1, 1) := by decide +kernel
theorem dX2_partingSquares_33 : decode cX2_partingSquares 33 = .ok (.ireturn, 1) := by decide +kernel
theorem dX2_partingRoadsOut_0 : decode cX2_partingRoadsOut 0 = .ok (.iconst 0, 1) := by decide +kernel
theorem dX2_partingRoadsOut_1 : decode cX2_partingRoadsOut 1 = .ok (.istore_n 2, 1) := by decide +kernel
theorem dX2_partingRoadsOut_2 : decode cX2_partingRoadsOut 2 = .ok (.iconst 0, 1) := by decide +kernel
theorem dX2_partingRoadsOut_3 : decode cX2_partingRoadsOut 3 = .ok (.istore_n 3, 1) := by decide +kernel
theorem dX2_partingRoadsOut_4 : decode cX2_partingRoadsOut 4 = .ok (.iload_n 3, 1) := by decide +kernel
theorem dX2_partingRoadsOut_5 : decode cX2_partingRoadsOut 5 = .ok (.aload_n 0, 1) := by decide +kernel
theorem dX2_partingRoadsOut_6 : decode cX2_partingRoadsOut 6 = .ok (.getfield 27, 3) := by decide +kernel
theorem dX2_partingRoadsOut_9 : decode cX2_partingRoadsOut 9 = .ok (.getfield 71, 3) := by decide +kernel
theorem dX2_partingRoadsOut_12 : decode cX2_partingRoadsOut 12 = .ok (.if_icmp .ge 37, 3) := by decide +kernel
theorem dX2_partingRoadsOut_15 : decode cX2_partingRoadsOut 15 = .ok (.aload_n 0, 1) := by decide +kernel
theorem dX2_partingRoadsOut_16 : decode cX2_partingRoadsOut 16 = .ok (.getfield 68, 3) := by decide +kernel
theorem dX2_partingRoadsOut_19 : decode cX2_partingRoadsOut 19 = .ok (.iload_n 3, 1) := by decide +kernel
theorem dX2_partingRoadsOut_20 : decode cX2_partingRoadsOut 20 = .ok (.invokestatic 52, 3) := by decide +kernel
theorem dX2_partingRoadsOut_23 : decode cX2_partingRoadsOut 23 = .ok (.ifCond .eq 20, 3) := by decide +kernel
theorem dX2_partingRoadsOut_26 : decode cX2_partingRoadsOut 26 = .ok (.aload_n 0, 1) := by decide +kernel
theorem dX2_partingRoadsOut_27 : decode cX2_partingRoadsOut 27 = .ok (.getfield 27, 3) := by decide +kernel
theorem dX2_partingRoadsOut_30 : decode cX2_partingRoadsOut 30 = .ok (.getfield 113, 3) := by decide +kernel
theorem dX2_partingRoadsOut_33 : decode cX2_partingRoadsOut 33 = .ok (.iload_n 3, 1) := by decide +kernel
theorem dX2_partingRoadsOut_34 : decode cX2_partingRoadsOut 34 = .ok (.iaload, 1) := by decide +kernel
theorem dX2_partingRoadsOut_35 : decode cX2_partingRoadsOut 35 = .ok (.iload_n 1, 1) := by decide +kernel
theorem dX2_partingRoadsOut_36 : decode cX2_partingRoadsOut 36 = .ok (.iand, 1) := by decide +kernel
theorem dX2_partingRoadsOut_37 : decode cX2_partingRoadsOut 37 = .ok (.ifCond .eq 6, 3) := by decide +kernel
theorem dX2_partingRoadsOut_40 : decode cX2_partingRoadsOut 40 = .ok (.iinc 2 1, 3) := by decide +kernel
theorem dX2_partingRoadsOut_43 : decode cX2_partingRoadsOut 43 = .ok (.iinc 3 1, 3) := by decide +kernel
theorem dX2_partingRoadsOut_46 : decode cX2_partingRoadsOut 46 = .ok (.goto (-42), 3) := by decide +kernel
theorem dX2_partingRoadsOut_49 : decode cX2_partingRoadsOut 49 = .ok (.iload_n 2, 1) := by decide +kernel
theorem dX2_partingRoadsOut_50 : decode cX2_partingRoadsOut 50 = .ok (.ireturn, 1) := by decide +kernel
theorem dX2_longestDistrict_0 : decode cX2_longestDistrict 0 = .ok (.iconst 0, 1) := by decide +kernel
theorem dX2_longestDistrict_1 : decode cX2_longestDistrict 1 = .ok (.istore_n 1, 1) := by decide +kernel
theorem dX2_longestDistrict_2 : decode cX2_longestDistrict 2 = .ok (.aload_n 0, 1) := by decide +kernel
theorem dX2_longestDistrict_3 : decode cX2_longestDistrict 3 = .ok (.getfield 27, 3) := by decide +kernel
theorem dX2_longestDistrict_6 : decode cX2_longestDistrict 6 = .ok (.aload_n 0, 1) := by decide +kernel
theorem dX2_longestDistrict_7 : decode cX2_longestDistrict 7 = .ok (.getfield 27, 3) := by decide +kernel
theorem dX2_longestDistrict_10 : decode cX2_longestDistrict 10 = .ok (.aload_n 0, 1) := by decide +kernel
theorem dX2_longestDistrict_11 : decode cX2_longestDistrict 11 = .ok (.getfield 18, 3) := by decide +kernel
theorem dX2_longestDistrict_14 : decode cX2_longestDistrict 14 = .ok (.iload_n 1, 1) := by decide +kernel
theorem dX2_longestDistrict_15 : decode cX2_longestDistrict 15 = .ok (.iaload, 1) := by decide +kernel
theorem dX2_longestDistrict_16 : decode cX2_longestDistrict 16 = .ok (.invokevirtual 116, 3) := by decide +kernel
theorem dX2_longestDistrict_19 : decode cX2_longestDistrict 19 = .ok (.invokevirtual 119, 3) := by decide +kernel
theorem dX2_longestDistrict_22 : decode cX2_longestDistrict 22 = .ok (.istore_n 2, 1) := by decide +kernel
theorem dX2_longestDistrict_23 : decode cX2_longestDistrict 23 = .ok (.iconst 1, 1) := by decide +kernel
theorem dX2_longestDistrict_24 : decode cX2_longestDistrict 24 = .ok (.istore_n 3, 1) := by decide +kernel
theorem dX2_longestDistrict_25 : decode cX2_longestDistrict 25 = .ok (.iload_n 3, 1) := by decide +kernel
theorem dX2_longestDistrict_26 : decode cX2_longestDistrict 26 = .ok (.aload_n 0, 1) := by decide +kernel
theorem dX2_longestDistrict_27 : decode cX2_longestDistrict 27 = .ok (.getfield 80, 3) := by decide +kernel
theorem dX2_longestDistrict_30 : decode cX2_longestDistrict 30 = .ok (.if_icmp .ge 42, 3) := by decide +kernel
theorem dX2_longestDistrict_33 : decode cX2_longestDistrict 33 = .ok (.aload_n 0, 1) := by decide +kernel
theorem dX2_longestDistrict_34 : decode cX2_longestDistrict 34 = .ok (.getfield 27, 3) := by decide +kernel
theorem dX2_longestDistrict_37 : decode cX2_longestDistrict 37 = .ok (.aload_n 0, 1) := by decide +kernel
theorem dX2_longestDistrict_38 : decode cX2_longestDistrict 38 = .ok (.getfield 27, 3) := by decide +kernel
theorem dX2_longestDistrict_41 : decode cX2_longestDistrict 41 = .ok (.aload_n 0, 1) := by decide +kernel
theorem dX2_longestDistrict_42 : decode cX2_longestDistrict 42 = .ok (.getfield 18, 3) := by decide +kernel
theorem dX2_longestDistrict_45 : decode cX2_longestDistrict 45 = .ok (.iload_n 3, 1) := by decide +kernel
theorem dX2_longestDistrict_46 : decode cX2_longestDistrict 46 = .ok (.iaload, 1) := by decide +kernel
theorem dX2_longestDistrict_47 : decode cX2_longestDistrict 47 = .ok (.invokevirtual 116, 3) := by decide +kernel
theorem dX2_longestDistrict_50 : decode cX2_longestDistrict 50 = .ok (.invokevirtual 119, 3) := by decide +kernel
theorem dX2_longestDistrict_53 : decode cX2_longestDistrict 53 = .ok (.istore 4, 2) := by decide +kernel
theorem dX2_longestDistrict_55 : decode cX2_longestDistrict 55 = .ok (.iload 4, 2) := by decide +kernel
theorem dX2_longestDistrict_57 : decode cX2_longestDistrict 57 = .ok (.iload_n 2, 1) := by decide +kernel
theorem dX2_longestDistrict_58 : decode cX2_longestDistrict 58 = .ok (.if_icmp .le 8, 3) := by decide +kernel
theorem dX2_longestDistrict_61 : decode cX2_longestDistrict 61 = .ok (.iload 4, 2) := by decide +kernel
theorem dX2_longestDistrict_63 : decode cX2_longestDistrict 63 = .ok (.istore_n 2, 1) := by decide +kernel
theorem dX2_longestDistrict_64 : decode cX2_longestDistrict 64 = .ok (.iload_n 3, 1) := by decide +kernel
theorem dX2_longestDistrict_65 : decode cX2_longestDistrict 65 = .ok (.istore_n 1, 1) := by decide +kernel
theorem dX2_longestDistrict_66 : decode cX2_longestDistrict 66 = .ok (.iinc 3 1, 3) := by decide +kernel
theorem dX2_longestDistrict_69 : decode cX2_longestDistrict 69 = .ok (.goto (-44), 3) := by decide +kernel
theorem dX2_longestDistrict_72 : decode cX2_longestDistrict 72 = .ok (.iload_n 1, 1) := by decide +kernel
theorem dX2_longestDistrict_73 : decode cX2_longestDistrict 73 = .ok (.ireturn, 1) := by decide +kernel
theorem dX2_leafDistricts_0 : decode cX2_leafDistricts 0 = .ok (.iconst 0, 1) := by decide +kernel
theorem dX2_leafDistricts_1 : decode cX2_leafDistricts 1 = .ok (.istore_n 2, 1) := by decide +kernel
theorem dX2_leafDistricts_2 : decode cX2_leafDistricts 2 = .ok (.iconst 0, 1) := by decide +kernel
theorem dX2_leafDistricts_3 : decode cX2_leafDistricts 3 = .ok (.istore_n 3, 1) := by decide +kernel
theorem dX2_leafDistricts_4 : decode cX2_leafDistricts 4 = .ok (.iload_n 3, 1) := by decide +kernel
theorem dX2_leafDistricts_5 : decode cX2_leafDistricts 5 = .ok (.aload_n 0, 1) := by decide +kernel
theorem dX2_leafDistricts_6 : decode cX2_leafDistricts 6 = .ok (.getfield 80, 3) := by decide +kernel
theorem dX2_leafDistricts_9 : decode cX2_leafDistricts 9 = .ok (.if_icmp .ge 37, 3) := by decide +kernel
theorem dX2_leafDistricts_12 : decode cX2_leafDistricts 12 = .ok (.aload_n 0, 1) := by decide +kernel
theorem dX2_leafDistricts_13 : decode cX2_leafDistricts 13 = .ok (.getfield 18, 3) := by decide +kernel
theorem dX2_leafDistricts_16 : decode cX2_leafDistricts 16 = .ok (.iload_n 3, 1) := by decide +kernel
theorem dX2_leafDistricts_17 : decode cX2_leafDistricts 17 = .ok (.iaload, 1) := by decide +kernel
theorem dX2_leafDistricts_18 : decode cX2_leafDistricts 18 = .ok (.istore 4, 2) := by decide +kernel
theorem dX2_leafDistricts_20 : decode cX2_leafDistricts 20 = .ok (.iload 4, 2) := by decide +kernel
theorem dX2_leafDistricts_22 : decode cX2_leafDistricts 22 = .ok (.iload_n 1, 1) := by decide +kernel
theorem dX2_leafDistricts_23 : decode cX2_leafDistricts 23 = .ok (.iand, 1) := by decide +kernel
theorem dX2_leafDistricts_24 : decode cX2_leafDistricts 24 = .ok (.ifCond .eq 16, 3) := by decide +kernel
theorem dX2_leafDistricts_27 : decode cX2_leafDistricts 27 = .ok (.aload_n 0, 1) := by decide +kernel
theorem dX2_leafDistricts_28 : decode cX2_leafDistricts 28 = .ok (.iload 4, 2) := by decide +kernel
theorem dX2_leafDistricts_30 : decode cX2_leafDistricts 30 = .ok (.invokevirtual 122, 3) := by decide +kernel
theorem dX2_leafDistricts_33 : decode cX2_leafDistricts 33 = .ok (.iconst 1, 1) := by decide +kernel
theorem dX2_leafDistricts_34 : decode cX2_leafDistricts 34 = .ok (.if_icmp .ne 6, 3) := by decide +kernel
theorem dX2_leafDistricts_37 : decode cX2_leafDistricts 37 = .ok (.iinc 2 1, 3) := by decide +kernel
theorem dX2_leafDistricts_40 : decode cX2_leafDistricts 40 = .ok (.iinc 3 1, 3) := by decide +kernel
theorem dX2_leafDistricts_43 : decode cX2_leafDistricts 43 = .ok (.goto (-39), 3) := by decide +kernel
theorem dX2_leafDistricts_46 : decode cX2_leafDistricts 46 = .ok (.iload_n 2, 1) := by decide +kernel
theorem dX2_leafDistricts_47 : decode cX2_leafDistricts 47 = .ok (.ireturn, 1) := by decide +kernel
theorem dX2_leastRing_0 : decode cX2_leastRing 0 = .ok (.aload_n 0, 1) := by decide +kernel
theorem dX2_leastRing_1 : decode cX2_leastRing 1 = .ok (.getfield 27, 3) := by decide +kernel
theorem dX2_leastRing_4 : decode cX2_leastRing 4 = .ok (.invokevirtual 56, 3) := by decide +kernel
theorem dX2_leastRing_7 : decode cX2_leastRing 7 = .ok (.iconst 1, 1) := by decide +kernel
theorem dX2_leastRing_8 : decode cX2_leastRing 8 = .ok (.iload_n 1, 1) := by decide +kernel
theorem dX2_leastRing_9 : decode cX2_leastRing 9 = .ok (.ishl, 1) := by decide +kernel
theorem dX2_leastRing_10 : decode cX2_leastRing 10 = .ok (.iconst (-1), 1) := by decide +kernel
theorem dX2_leastRing_11 : decode cX2_leastRing 11 = .ok (.ixor, 1) := by decide +kernel
theorem dX2_leastRing_12 : decode cX2_leastRing 12 = .ok (.iand, 1) := by decide +kernel
theorem dX2_leastRing_13 : decode cX2_leastRing 13 = .ok (.istore_n 2, 1) := by decide +kernel
theorem dX2_leastRing_14 : decode cX2_leastRing 14 = .ok (.iconst 1, 1) := by decide +kernel
theorem dX2_leastRing_15 : decode cX2_leastRing 15 = .ok (.aload_n 0, 1) := by decide +kernel
theorem dX2_leastRing_16 : decode cX2_leastRing 16 = .ok (.getfield 27, 3) := by decide +kernel
theorem dX2_leastRing_19 : decode cX2_leastRing 19 = .ok (.getfield 74, 3) := by decide +kernel
theorem dX2_leastRing_22 : decode cX2_leastRing 22 = .ok (.iload_n 1, 1) := by decide +kernel
theorem dX2_leastRing_23 : decode cX2_leastRing 23 = .ok (.iaload, 1) := by decide +kernel
theorem dX2_leastRing_24 : decode cX2_leastRing 24 = .ok (.ishl, 1) := by decide +kernel
theorem dX2_leastRing_25 : decode cX2_leastRing 25 = .ok (.istore_n 3, 1) := by decide +kernel
theorem dX2_leastRing_26 : decode cX2_leastRing 26 = .ok (.iconst 2, 1) := by decide +kernel
theorem dX2_leastRing_27 : decode cX2_leastRing 27 = .ok (.istore 4, 2) := by decide +kernel
theorem dX2_leastRing_29 : decode cX2_leastRing 29 = .ok (.iload 4, 2) := by decide +kernel
theorem dX2_leastRing_31 : decode cX2_leastRing 31 = .ok (.bipush 16, 2) := by decide +kernel
theorem dX2_leastRing_33 : decode cX2_leastRing 33 = .ok (.if_icmp .gt 38, 3) := by decide +kernel
theorem dX2_leastRing_36 : decode cX2_leastRing 36 = .ok (.aload_n 0, 1) := by decide +kernel
theorem dX2_leastRing_37 : decode cX2_leastRing 37 = .ok (.getfield 27, 3) := by decide +kernel
theorem dX2_leastRing_40 : decode cX2_leastRing 40 = .ok (.iload_n 3, 1) := by decide +kernel
theorem dX2_leastRing_41 : decode cX2_leastRing 41 = .ok (.iload_n 2, 1) := by decide +kernel
theorem dX2_leastRing_42 : decode cX2_leastRing 42 = .ok (.invokevirtual 125, 3) := by decide +kernel
theorem dX2_leastRing_45 : decode cX2_leastRing 45 = .ok (.istore_n 3, 1) := by decide +kernel
theorem dX2_leastRing_46 : decode cX2_leastRing 46 = .ok (.iload_n 3, 1) := by decide +kernel
theorem dX2_leastRing_47 : decode cX2_leastRing 47 = .ok (.aload_n 0, 1) := by decide +kernel
theorem dX2_leastRing_48 : decode cX2_leastRing 48 = .ok (.getfield 27, 3) := by decide +kernel
theorem dX2_leastRing_51 : decode cX2_leastRing 51 = .ok (.getfield 77, 3) := by decide +kernel
theorem dX2_leastRing_54 : decode cX2_leastRing 54 = .ok (.iload_n 1, 1) := by decide +kernel
theorem dX2_leastRing_55 : decode cX2_leastRing 55 = .ok (.iaload, 1) := by decide +kernel
theorem dX2_leastRing_56 : decode cX2_leastRing 56 = .ok (.invokestatic 52, 3) := by decide +kernel
theorem dX2_leastRing_59 : decode cX2_leastRing 59 = .ok (.ifCond .eq 6, 3) := by decide +kernel
theorem dX2_leastRing_62 : decode cX2_leastRing 62 = .ok (.iload 4, 2) := by decide +kernel
theorem dX2_leastRing_64 : decode cX2_leastRing 64 = .ok (.ireturn, 1) := by decide +kernel
theorem dX2_leastRing_65 : decode cX2_leastRing 65 = .ok (.iinc 4 1, 3) := by decide +kernel
theorem dX2_leastRing_68 : decode cX2_leastRing 68 = .ok (.goto (-39), 3) := by decide +kernel
theorem dX2_leastRing_71 : decode cX2_leastRing 71 = .ok (.bipush (-6), 2) := by decide +kernel
theorem dX2_leastRing_73 : decode cX2_leastRing 73 = .ok (.ireturn, 1) := by decide +kernel
theorem dX2_leastLength_0 : decode cX2_leastLength 0 = .ok (.iconst 0, 1) := by decide +kernel
theorem dX2_leastLength_1 : decode cX2_leastLength 1 = .ok (.istore_n 3, 1) := by decide +kernel
theorem dX2_leastLength_2 : decode cX2_leastLength 2 = .ok (.iload_n 3, 1) := by decide +kernel
theorem dX2_leastLength_3 : decode cX2_leastLength 3 = .ok (.bipush 16, 2) := by decide +kernel
theorem dX2_leastLength_5 : decode cX2_leastLength 5 = .ok (.if_icmp .ge 18, 3) := by decide +kernel
theorem dX2_leastLength_8 : decode cX2_leastLength 8 = .ok (.aload_n 0, 1) := by decide +kernel
theorem dX2_leastLength_9 : decode cX2_leastLength 9 = .ok (.getfield 24, 3) := by decide +kernel
theorem dX2_leastLength_12 : decode cX2_leastLength 12 = .ok (.iload_n 3, 1) := by decide +kernel
theorem dX2_leastLength_13 : decode cX2_leastLength 13 = .ok (.sipush 1584, 3) := by decide +kernel
theorem dX2_leastLength_16 : decode cX2_leastLength 16 = .ok (.iastore, 1) := by decide +kernel
theorem dX2_leastLength_17 : decode cX2_leastLength 17 = .ok (.iinc 3 1, 3) := by decide +kernel
theorem dX2_leastLength_20 : decode cX2_leastLength 20 = .ok (.goto (-18), 3) := by decide +kernel
theorem dX2_leastLength_23 : decode cX2_leastLength 23 = .ok (.aload_n 0, 1) := by decide +kernel
theorem dX2_leastLength_24 : decode cX2_leastLength 24 = .ok (.getfield 24, 3) := by decide +kernel
theorem dX2_leastLength_27 : decode cX2_leastLength 27 = .ok (.iload_n 1, 1) := by decide +kernel
theorem dX2_leastLength_28 : decode cX2_leastLength 28 = .ok (.iconst 0, 1) := by decide +kernel
theorem dX2_leastLength_29 : decode cX2_leastLength 29 = .ok (.iastore, 1) := by decide +kernel
theorem dX2_leastLength_30 : decode cX2_leastLength 30 = .ok (.iconst 1, 1) := by decide +kernel
theorem dX2_leastLength_31 : decode cX2_leastLength 31 = .ok (.istore_n 3, 1) := by decide +kernel
theorem dX2_leastLength_32 : decode cX2_leastLength 32 = .ok (.iconst 0, 1) := by decide +kernel
theorem dX2_leastLength_33 : decode cX2_leastLength 33 = .ok (.istore 4, 2) := by decide +kernel
theorem dX2_leastLength_35 : decode cX2_leastLength 35 = .ok (.iload 4, 2) := by decide +kernel
theorem dX2_leastLength_37 : decode cX2_leastLength 37 = .ok (.bipush 16, 2) := by decide +kernel
theorem dX2_leastLength_39 : decode cX2_leastLength 39 = .ok (.if_icmp .ge 112, 3) := by decide +kernel
theorem dX2_leastLength_42 : decode cX2_leastLength 42 = .ok (.iload_n 3, 1) := by decide +kernel
theorem dX2_leastLength_43 : decode cX2_leastLength 43 = .ok (.ifCond .eq 108, 3) := by decide +kernel
theorem dX2_leastLength_46 : decode cX2_leastLength 46 = .ok (.iconst 0, 1) := by decide +kernel
theorem dX2_leastLength_47 : decode cX2_leastLength 47 = .ok (.istore_n 3, 1) := by decide +kernel
theorem dX2_leastLength_48 : decode cX2_leastLength 48 = .ok (.iconst 0, 1) := by decide +kernel
theorem dX2_leastLength_49 : decode cX2_leastLength 49 = .ok (.istore 5, 2) := by decide +kernel
theorem dX2_leastLength_51 : decode cX2_leastLength 51 = .ok (.iload 5, 2) := by decide +kernel
theorem dX2_leastLength_53 : decode cX2_leastLength 53 = .ok (.aload_n 0, 1) := by decide +kernel
theorem dX2_leastLength_54 : decode cX2_leastLength 54 = .ok (.getfield 27, 3) := by decide +kernel
theorem dX2_leastLength_57 : decode cX2_leastLength 57 = .ok (.getfield 71, 3) := by decide +kernel
theorem dX2_leastLength_60 : decode cX2_leastLength 60 = .ok (.if_icmp .ge 85, 3) := by decide +kernel
theorem dX2_leastLength_63 : decode cX2_leastLength 63 = .ok (.aload_n 0, 1) := by decide +kernel
theorem dX2_leastLength_64 : decode cX2_leastLength 64 = .ok (.aload_n 0, 1) := by decide +kernel
theorem dX2_leastLength_65 : decode cX2_leastLength 65 = .ok (.getfield 27, 3) := by decide +kernel
theorem dX2_leastLength_68 : decode cX2_leastLength 68 = .ok (.getfield 74, 3) := by decide +kernel
theorem dX2_leastLength_71 : decode cX2_leastLength 71 = .ok (.iload 5, 2) := by decide +kernel
theorem dX2_leastLength_73 : decode cX2_leastLength 73 = .ok (.iaload, 1) := by decide +kernel
theorem dX2_leastLength_74 : decode cX2_leastLength 74 = .ok (.aload_n 0, 1) := by decide +kernel
theorem dX2_leastLength_75 : decode cX2_leastLength 75 = .ok (.getfield 27, 3) := by decide +kernel
theorem dX2_leastLength_78 : decode cX2_leastLength 78 = .ok (.getfield 77, 3) := by decide +kernel
theorem dX2_leastLength_81 : decode cX2_leastLength 81 = .ok (.iload 5, 2) := by decide +kernel
theorem dX2_leastLength_83 : decode cX2_leastLength 83 = .ok (.iaload, 1) := by decide +kernel
theorem dX2_leastLength_84 : decode cX2_leastLength 84 = .ok (.aload_n 0, 1) := by decide +kernel
theorem dX2_leastLength_85 : decode cX2_leastLength 85 = .ok (.getfield 27, 3) := by decide +kernel
theorem dX2_leastLength_88 : decode cX2_leastLength 88 = .ok (.getfield 128, 3) := by decide +kernel
theorem dX2_leastLength_91 : decode cX2_leastLength 91 = .ok (.iload 5, 2) := by decide +kernel
theorem dX2_leastLength_93 : decode cX2_leastLength 93 = .ok (.iaload, 1) := by decide +kernel
theorem dX2_leastLength_94 : decode cX2_leastLength 94 = .ok (.invokevirtual 131, 3) := by decide +kernel
theorem dX2_leastLength_97 : decode cX2_leastLength 97 = .ok (.ifCond .ne 40, 3) := by decide +kernel
theorem dX2_leastLength_100 : decode cX2_leastLength 100 = .ok (.aload_n 0, 1) := by decide +kernel
theorem dX2_leastLength_101 : decode cX2_leastLength 101 = .ok (.aload_n 0, 1) := by decide +kernel
theorem dX2_leastLength_102 : decode cX2_leastLength 102 = .ok (.getfield 27, 3) := by decide +kernel
theorem dX2_leastLength_105 : decode cX2_leastLength 105 = .ok (.getfield 77, 3) := by decide +kernel
theorem dX2_leastLength_108 : decode cX2_leastLength 108 = .ok (.iload 5, 2) := by decide +kernel
theorem dX2_leastLength_110 : decode cX2_leastLength 110 = .ok (.iaload, 1) := by decide +kernel
theorem dX2_leastLength_111 : decode cX2_leastLength 111 = .ok (.aload_n 0, 1) := by decide +kernel
theorem dX2_leastLength_112 : decode cX2_leastLength 112 = .ok (.getfield 27, 3) := by decide +kernel
theorem dX2_leastLength_115 : decode cX2_leastLength 115 = .ok (.getfield 74, 3) := by decide +kernel
theorem dX2_leastLength_118 : decode cX2_leastLength 118 = .ok (.iload 5, 2) := by decide +kernel
theorem dX2_leastLength_120 : decode cX2_leastLength 120 = .ok (.iaload, 1) := by decide +kernel
theorem dX2_leastLength_121 : decode cX2_leastLength 121 = .ok (.aload_n 0, 1) := by decide +kernel
theorem dX2_leastLength_122 : decode cX2_leastLength 122 = .ok (.getfield 27, 3) := by decide +kernel
theorem dX2_leastLength_125 : decode cX2_leastLength 125 = .ok (.getfield 128, 3) := by decide +kernel
theorem dX2_leastLength_128 : decode cX2_leastLength 128 = .ok (.iload 5, 2) := by decide +kernel
theorem dX2_leastLength_130 : decode cX2_leastLength 130 = .ok (.iaload, 1) := by decide +kernel
theorem dX2_leastLength_131 : decode cX2_leastLength 131 = .ok (.invokevirtual 131, 3) := by decide +kernel
theorem dX2_leastLength_134 : decode cX2_leastLength 134 = .ok (.ifCond .eq 5, 3) := by decide +kernel
theorem dX2_leastLength_137 : decode cX2_leastLength 137 = .ok (.iconst 1, 1) := by decide +kernel
theorem dX2_leastLength_138 : decode cX2_leastLength 138 = .ok (.istore_n 3, 1) := by decide +kernel
theorem dX2_leastLength_139 : decode cX2_leastLength 139 = .ok (.iinc 5 1, 3) := by decide +kernel
theorem dX2_leastLength_142 : decode cX2_leastLength 142 = .ok (.goto (-91), 3) := by decide +kernel
theorem dX2_leastLength_145 : decode cX2_leastLength 145 = .ok (.iinc 4 1, 3) := by decide +kernel
theorem dX2_leastLength_148 : decode cX2_leastLength 148 = .ok (.goto (-113), 3) := by decide +kernel
theorem dX2_leastLength_151 : decode cX2_leastLength 151 = .ok (.aload_n 0, 1) := by decide +kernel
theorem dX2_leastLength_152 : decode cX2_leastLength 152 = .ok (.getfield 24, 3) := by decide +kernel
theorem dX2_leastLength_155 : decode cX2_leastLength 155 = .ok (.iload_n 2, 1) := by decide +kernel
theorem dX2_leastLength_156 : decode cX2_leastLength 156 = .ok (.iaload, 1) := by decide +kernel
theorem dX2_leastLength_157 : decode cX2_leastLength 157 = .ok (.ireturn, 1) := by decide +kernel
theorem dX2_shorten_0 : decode cX2_shorten 0 = .ok (.aload_n 0, 1) := by decide +kernel
theorem dX2_shorten_1 : decode cX2_shorten 1 = .ok (.getfield 24, 3) := by decide +kernel
theorem dX2_shorten_4 : decode cX2_shorten 4 = .ok (.iload_n 1, 1) := by decide +kernel
theorem dX2_shorten_5 : decode cX2_shorten 5 = .ok (.iaload, 1) := by decide +kernel
theorem dX2_shorten_6 : decode cX2_shorten 6 = .ok (.iload_n 3, 1) := by decide +kernel
theorem dX2_shorten_7 : decode cX2_shorten 7 = .ok (.iadd, 1) := by decide +kernel
theorem dX2_shorten_8 : decode cX2_shorten 8 = .ok (.aload_n 0, 1) := by decide +kernel
theorem dX2_shorten_9 : decode cX2_shorten 9 = .ok (.getfield 24, 3) := by decide +kernel
theorem dX2_shorten_12 : decode cX2_shorten 12 = .ok (.iload_n 2, 1) := by decide +kernel
theorem dX2_shorten_13 : decode cX2_shorten 13 = .ok (.iaload, 1) := by decide +kernel
theorem dX2_shorten_14 : decode cX2_shorten 14 = .ok (.if_icmp .lt 5, 3) := by decide +kernel
theorem dX2_shorten_17 : decode cX2_shorten 17 = .ok (.iconst 0, 1) := by decide +kernel
theorem dX2_shorten_18 : decode cX2_shorten 18 = .ok (.ireturn, 1) := by decide +kernel
theorem dX2_shorten_19 : decode cX2_shorten 19 = .ok (.aload_n 0, 1) := by decide +kernel
theorem dX2_shorten_20 : decode cX2_shorten 20 = .ok (.getfield 24, 3) := by decide +kernel
theorem dX2_shorten_23 : decode cX2_shorten 23 = .ok (.iload_n 2, 1) := by decide +kernel
theorem dX2_shorten_24 : decode cX2_shorten 24 = .ok (.aload_n 0, 1) := by decide +kernel
theorem dX2_shorten_25 : decode cX2_shorten 25 = .ok (.getfield 24, 3) := by decide +kernel
theorem dX2_shorten_28 : decode cX2_shorten 28 = .ok (.iload_n 1, 1) := by decide +kernel
theorem dX2_shorten_29 : decode cX2_shorten 29 = .ok (.iaload, 1) := by decide +kernel
theorem dX2_shorten_30 : decode cX2_shorten 30 = .ok (.iload_n 3, 1) := by decide +kernel
theorem dX2_shorten_31 : decode cX2_shorten 31 = .ok (.iadd, 1) := by decide +kernel
theorem dX2_shorten_32 : decode cX2_shorten 32 = .ok (.iastore, 1) := by decide +kernel
theorem dX2_shorten_33 : decode cX2_shorten 33 = .ok (.iconst 1, 1) := by decide +kernel
theorem dX2_shorten_34 : decode cX2_shorten 34 = .ok (.ireturn, 1) := by decide +kernel
theorem dX3_init_0 : decode cX3_init 0 = .ok (.aload_n 0, 1) := by decide +kernel
theorem dX3_init_1 : decode cX3_init 1 = .ok (.invokespecial 3, 3) := by decide +kernel
theorem dX3_init_4 : decode cX3_init 4 = .ok (.aload_n 0, 1) := by decide +kernel
theorem dX3_init_5 : decode cX3_init 5 = .ok (.bipush 8, 2) := by decide +kernel
theorem dX3_init_7 : decode cX3_init 7 = .ok (.putfield 9, 3) := by decide +kernel
theorem dX3_init_10 : decode cX3_init 10 = .ok (.aload_n 0, 1) := by decide +kernel
theorem dX3_init_11 : decode cX3_init 11 = .ok (.iconst 0, 1) := by decide +kernel
theorem dX3_init_12 : decode cX3_init 12 = .ok (.putfield 15, 3) := by decide +kernel
theorem dX3_init_15 : decode cX3_init 15 = .ok (.aload_n 0, 1) := by decide +kernel
theorem dX3_init_16 : decode cX3_init 16 = .ok (.bipush 30, 2) := by decide +kernel
theorem dX3_init_18 : decode cX3_init 18 = .ok (.newarray .int, 2) := by decide +kernel
theorem dX3_init_20 : decode cX3_init 20 = .ok (.putfield 18, 3) := by decide +kernel
theorem dX3_init_23 : decode cX3_init 23 = .ok (.aload_n 0, 1) := by decide +kernel
theorem dX3_init_24 : decode cX3_init 24 = .ok (.bipush 30, 2) := by decide +kernel
theorem dX3_init_26 : decode cX3_init 26 = .ok (.newarray .int, 2) := by decide +kernel
theorem dX3_init_28 : decode cX3_init 28 = .ok (.putfield 22, 3) := by decide +kernel
theorem dX3_init_31 : decode cX3_init 31 = .ok (.aload_n 0, 1) := by decide +kernel
theorem dX3_init_32 : decode cX3_init 32 = .ok (.bipush 30, 2) := by decide +kernel
theorem dX3_init_34 : decode cX3_init 34 = .ok (.newarray .int, 2) := by decide +kernel
theorem dX3_init_36 : decode cX3_init 36 = .ok (.putfield 25, 3) := by decide +kernel
theorem dX3_init_39 : decode cX3_init 39 = .ok (.aload_n 0, 1) := by decide +kernel
theorem dX3_init_40 : decode cX3_init 40 = .ok (.bipush 30, 2) := by decide +kernel
theorem dX3_init_42 : decode cX3_init 42 = .ok (.newarray .int, 2) := by decide +kernel
theorem dX3_init_44 : decode cX3_init 44 = .ok (.putfield 28, 3) := by decide +kernel
theorem dX3_init_47 : decode cX3_init 47 = .ok (.return_, 1) := by decide +kernel
theorem dX3_copyFrom_0 : decode cX3_copyFrom 0 = .ok (.aload_n 0, 1) := by decide +kernel
theorem dX3_copyFrom_1 : decode cX3_copyFrom 1 = .ok (.aload_n 1, 1) := by decide +kernel
theorem dX3_copyFrom_2 : decode cX3_copyFrom 2 = .ok (.getfield 9, 3) := by decide +kernel
theorem dX3_copyFrom_5 : decode cX3_copyFrom 5 = .ok (.putfield 9, 3) := by decide +kernel
theorem dX3_copyFrom_8 : decode cX3_copyFrom 8 = .ok (.aload_n 0, 1) := by decide +kernel
theorem dX3_copyFrom_9 : decode cX3_copyFrom 9 = .ok (.aload_n 1, 1) := by decide +kernel
theorem dX3_copyFrom_10 : decode cX3_copyFrom 10 = .ok (.getfield 15, 3) := by decide +kernel
theorem dX3_copyFrom_13 : decode cX3_copyFrom 13 = .ok (.putfield 15, 3) := by decide +kernel
theorem dX3_copyFrom_16 : decode cX3_copyFrom 16 = .ok (.aload_n 1, 1) := by decide +kernel
theorem dX3_copyFrom_17 : decode cX3_copyFrom 17 = .ok (.getfield 18, 3) := by decide +kernel
theorem dX3_copyFrom_20 : decode cX3_copyFrom 20 = .ok (.iconst 0, 1) := by decide +kernel
theorem dX3_copyFrom_21 : decode cX3_copyFrom 21 = .ok (.aload_n 0, 1) := by decide +kernel
theorem dX3_copyFrom_22 : decode cX3_copyFrom 22 = .ok (.getfield 18, 3) := by decide +kernel
theorem dX3_copyFrom_25 : decode cX3_copyFrom 25 = .ok (.iconst 0, 1) := by decide +kernel
theorem dX3_copyFrom_26 : decode cX3_copyFrom 26 = .ok (.bipush 30, 2) := by decide +kernel
theorem dX3_copyFrom_28 : decode cX3_copyFrom 28 = .ok (.invokestatic 31, 3) := by decide +kernel
theorem dX3_copyFrom_31 : decode cX3_copyFrom 31 = .ok (.aload_n 1, 1) := by decide +kernel
theorem dX3_copyFrom_32 : decode cX3_copyFrom 32 = .ok (.getfield 22, 3) := by decide +kernel
theorem dX3_copyFrom_35 : decode cX3_copyFrom 35 = .ok (.iconst 0, 1) := by decide +kernel
theorem dX3_copyFrom_36 : decode cX3_copyFrom 36 = .ok (.aload_n 0, 1) := by decide +kernel
theorem dX3_copyFrom_37 : decode cX3_copyFrom 37 = .ok (.getfield 22, 3) := by decide +kernel
theorem dX3_copyFrom_40 : decode cX3_copyFrom 40 = .ok (.iconst 0, 1) := by decide +kernel
theorem dX3_copyFrom_41 : decode cX3_copyFrom 41 = .ok (.bipush 30, 2) := by decide +kernel
theorem dX3_copyFrom_43 : decode cX3_copyFrom 43 = .ok (.invokestatic 31, 3) := by decide +kernel
theorem dX3_copyFrom_46 : decode cX3_copyFrom 46 = .ok (.aload_n 1, 1) := by decide +kernel
theorem dX3_copyFrom_47 : decode cX3_copyFrom 47 = .ok (.getfield 25, 3) := by decide +kernel
theorem dX3_copyFrom_50 : decode cX3_copyFrom 50 = .ok (.iconst 0, 1) := by decide +kernel
theorem dX3_copyFrom_51 : decode cX3_copyFrom 51 = .ok (.aload_n 0, 1) := by decide +kernel
theorem dX3_copyFrom_52 : decode cX3_copyFrom 52 = .ok (.getfield 25, 3) := by decide +kernel
theorem dX3_copyFrom_55 : decode cX3_copyFrom 55 = .ok (.iconst 0, 1) := by decide +kernel
theorem dX3_copyFrom_56 : decode cX3_copyFrom 56 = .ok (.bipush 30, 2) := by decide +kernel
theorem dX3_copyFrom_58 : decode cX3_copyFrom 58 = .ok (.invokestatic 31, 3) := by decide +kernel
theorem dX3_copyFrom_61 : decode cX3_copyFrom 61 = .ok (.aload_n 1, 1) := by decide +kernel
theorem dX3_copyFrom_62 : decode cX3_copyFrom 62 = .ok (.getfield 28, 3) := by decide +kernel
theorem dX3_copyFrom_65 : decode cX3_copyFrom 65 = .ok (.iconst 0, 1) := by decide +kernel
theorem dX3_copyFrom_66 : decode cX3_copyFrom 66 = .ok (.aload_n 0, 1) := by decide +kernel
theorem dX3_copyFrom_67 : decode cX3_copyFrom 67 = .ok (.getfield 28, 3) := by decide +kernel
theorem dX3_copyFrom_70 : decode cX3_copyFrom 70 = .ok (.iconst 0, 1) := by decide +kernel
theorem dX3_copyFrom_71 : decode cX3_copyFrom 71 = .ok (.bipush 30, 2) := by decide +kernel
theorem dX3_copyFrom_73 : decode cX3_copyFrom 73 = .ok (.invokestatic 31, 3) := by decide +kernel
theorem dX3_copyFrom_76 : decode cX3_copyFrom 76 = .ok (.return_, 1) := by decide +kernel
theorem dX3_hasSquare_0 : decode cX3_hasSquare 0 = .ok (.iload_n 1, 1) := by decide +kernel
theorem dX3_hasSquare_1 : decode cX3_hasSquare 1 = .ok (.ifCond .lt 15, 3) := by decide +kernel
theorem dX3_hasSquare_4 : decode cX3_hasSquare 4 = .ok (.iload_n 1, 1) := by decide +kernel
theorem dX3_hasSquare_5 : decode cX3_hasSquare 5 = .ok (.aload_n 0, 1) := by decide +kernel
theorem dX3_hasSquare_6 : decode cX3_hasSquare 6 = .ok (.getfield 9, 3) := by decide +kernel
theorem dX3_hasSquare_9 : decode cX3_hasSquare 9 = .ok (.if_icmp .ge 7, 3) := by decide +kernel
theorem dX3_hasSquare_12 : decode cX3_hasSquare 12 = .ok (.iconst 1, 1) := by decide +kernel
theorem dX3_hasSquare_13 : decode cX3_hasSquare 13 = .ok (.goto 4, 3) := by decide +kernel
theorem dX3_hasSquare_16 : decode cX3_hasSquare 16 = .ok (.iconst 0, 1) := by decide +kernel
theorem dX3_hasSquare_17 : decode cX3_hasSquare 17 = .ok (.ireturn, 1) := by decide +kernel
theorem dX3_hasRoad_0 : decode cX3_hasRoad 0 = .ok (.iload_n 1, 1) := by decide +kernel
theorem dX3_hasRoad_1 : decode cX3_hasRoad 1 = .ok (.ifCond .lt 15, 3) := by decide +kernel
theorem dX3_hasRoad_4 : decode cX3_hasRoad 4 = .ok (.iload_n 1, 1) := by decide +kernel
theorem dX3_hasRoad_5 : decode cX3_hasRoad 5 = .ok (.aload_n 0, 1) := by decide +kernel
theorem dX3_hasRoad_6 : decode cX3_hasRoad 6 = .ok (.getfield 15, 3) := by decide +kernel
theorem dX3_hasRoad_9 : decode cX3_hasRoad 9 = .ok (.if_icmp .ge 7, 3) := by decide +kernel
theorem dX3_hasRoad_12 : decode cX3_hasRoad 12 = .ok (.iconst 1, 1) := by decide +kernel
theorem dX3_hasRoad_13 : decode cX3_hasRoad 13 = .ok (.goto 4, 3) := by decide +kernel
theorem dX3_hasRoad_16 : decode cX3_hasRoad 16 = .ok (.iconst 0, 1) := by decide +kernel
theorem dX3_hasRoad_17 : decode cX3_hasRoad 17 = .ok (.ireturn, 1) := by decide +kernel
theorem dX3_fitsInto_0 : decode cX3_fitsInto 0 = .ok (.iconst 0, 1) := by decide +kernel
theorem dX3_fitsInto_1 : decode cX3_fitsInto 1 = .ok (.istore_n 2, 1) := by decide +kernel
theorem dX3_fitsInto_2 : decode cX3_fitsInto 2 = .ok (.iload_n 2, 1) := by decide +kernel
theorem dX3_fitsInto_3 : decode cX3_fitsInto 3 = .ok (.aload_n 0, 1) := by decide +kernel
theorem dX3_fitsInto_4 : decode cX3_fitsInto 4 = .ok (.getfield 15, 3) := by decide +kernel
theorem dX3_fitsInto_7 : decode cX3_fitsInto 7 = .ok (.if_icmp .ge 21, 3) := by decide +kernel
theorem dX3_fitsInto_10 : decode cX3_fitsInto 10 = .ok (.aload_n 0, 1) := by decide +kernel
theorem dX3_fitsInto_11 : decode cX3_fitsInto 11 = .ok (.getfield 22, 3) := by decide +kernel
theorem dX3_fitsInto_14 : decode cX3_fitsInto 14 = .ok (.iload_n 2, 1) := by decide +kernel
theorem dX3_fitsInto_15 : decode cX3_fitsInto 15 = .ok (.iaload, 1) := by decide +kernel
theorem dX3_fitsInto_16 : decode cX3_fitsInto 16 = .ok (.iload_n 1, 1) := by decide +kernel
theorem dX3_fitsInto_17 : decode cX3_fitsInto 17 = .ok (.if_icmp .lt 5, 3) := by decide +kernel
theorem dX3_fitsInto_20 : decode cX3_fitsInto 20 = .ok (.iconst 0, 1) := by decide +kernel
theorem dX3_fitsInto_21 : decode cX3_fitsInto 21 = .ok (.ireturn, 1) := by decide +kernel
theorem dX3_fitsInto_22 : decode cX3_fitsInto 22 = .ok (.iinc 2 1, 3) := by decide +kernel
theorem dX3_fitsInto_25 : decode cX3_fitsInto 25 = .ok (.goto (-23), 3) := by decide +kernel
theorem dX3_fitsInto_28 : decode cX3_fitsInto 28 = .ok (.iconst 1, 1) := by decide +kernel
theorem dX3_fitsInto_29 : decode cX3_fitsInto 29 = .ok (.ireturn, 1) := by decide +kernel
theorem dX3_addRoad_0 : decode cX3_addRoad 0 = .ok (.aload_n 0, 1) := by decide +kernel
theorem dX3_addRoad_1 : decode cX3_addRoad 1 = .ok (.getfield 15, 3) := by decide +kernel
theorem dX3_addRoad_4 : decode cX3_addRoad 4 = .ok (.bipush 30, 2) := by decide +kernel
theorem dX3_addRoad_6 : decode cX3_addRoad 6 = .ok (.if_icmp .lt 4, 3) := by decide +kernel
theorem dX3_addRoad_9 : decode cX3_addRoad 9 = .ok (.return_, 1) := by decide +kernel
theorem dX3_addRoad_10 : decode cX3_addRoad 10 = .ok (.aload_n 0, 1) := by decide +kernel
theorem dX3_addRoad_11 : decode cX3_addRoad 11 = .ok (.getfield 18, 3) := by decide +kernel
theorem dX3_addRoad_14 : decode cX3_addRoad 14 = .ok (.aload_n 0, 1) := by decide +kernel
theorem dX3_addRoad_15 : decode cX3_addRoad 15 = .ok (.getfield 15, 3) := by decide +kernel
theorem dX3_addRoad_18 : decode cX3_addRoad 18 = .ok (.iload_n 1, 1) := by decide +kernel
theorem dX3_addRoad_19 : decode cX3_addRoad 19 = .ok (.iload_n 2, 1) := by decide +kernel
theorem dX3_addRoad_20 : decode cX3_addRoad 20 = .ok (.invokestatic 37, 3) := by decide +kernel
theorem dX3_addRoad_23 : decode cX3_addRoad 23 = .ok (.iastore, 1) := by decide +kernel
theorem dX3_addRoad_24 : decode cX3_addRoad 24 = .ok (.aload_n 0, 1) := by decide +kernel
theorem dX3_addRoad_25 : decode cX3_addRoad 25 = .ok (.getfield 22, 3) := by decide +kernel
theorem dX3_addRoad_28 : decode cX3_addRoad 28 = .ok (.aload_n 0, 1) := by decide +kernel
theorem dX3_addRoad_29 : decode cX3_addRoad 29 = .ok (.getfield 15, 3) := by decide +kernel
theorem dX3_addRoad_32 : decode cX3_addRoad 32 = .ok (.iload_n 1, 1) := by decide +kernel
theorem dX3_addRoad_33 : decode cX3_addRoad 33 = .ok (.iload_n 2, 1) := by decide +kernel
theorem dX3_addRoad_34 : decode cX3_addRoad 34 = .ok (.invokestatic 43, 3) := by decide +kernel
theorem dX3_addRoad_37 : decode cX3_addRoad 37 = .ok (.iastore, 1) := by decide +kernel
theorem dX3_addRoad_38 : decode cX3_addRoad 38 = .ok (.aload_n 0, 1) := by decide +kernel
theorem dX3_addRoad_39 : decode cX3_addRoad 39 = .ok (.getfield 25, 3) := by decide +kernel
theorem dX3_addRoad_42 : decode cX3_addRoad 42 = .ok (.aload_n 0, 1) := by decide +kernel
theorem dX3_addRoad_43 : decode cX3_addRoad 43 = .ok (.getfield 15, 3) := by decide +kernel
theorem dX3_addRoad_46 : decode cX3_addRoad 46 = .ok (.iload_n 3, 1) := by decide +kernel
theorem dX3_addRoad_47 : decode cX3_addRoad 47 = .ok (.iastore, 1) := by decide +kernel
theorem dX3_addRoad_48 : decode cX3_addRoad 48 = .ok (.aload_n 0, 1) := by decide +kernel
theorem dX3_addRoad_49 : decode cX3_addRoad 49 = .ok (.getfield 28, 3) := by decide +kernel
theorem dX3_addRoad_52 : decode cX3_addRoad 52 = .ok (.aload_n 0, 1) := by decide +kernel
theorem dX3_addRoad_53 : decode cX3_addRoad 53 = .ok (.getfield 15, 3) := by decide +kernel
theorem dX3_addRoad_56 : decode cX3_addRoad 56 = .ok (.iconst 1, 1) := by decide +kernel
theorem dX3_addRoad_57 : decode cX3_addRoad 57 = .ok (.iload_n 1, 1) := by decide +kernel
theorem dX3_addRoad_58 : decode cX3_addRoad 58 = .ok (.ishl, 1) := by decide +kernel
theorem dX3_addRoad_59 : decode cX3_addRoad 59 = .ok (.iconst 1, 1) := by decide +kernel
theorem dX3_addRoad_60 : decode cX3_addRoad 60 = .ok (.iload_n 2, 1) := by decide +kernel
theorem dX3_addRoad_61 : decode cX3_addRoad 61 = .ok (.ishl, 1) := by decide +kernel
theorem dX3_addRoad_62 : decode cX3_addRoad 62 = .ok (.ior, 1) := by decide +kernel
theorem dX3_addRoad_63 : decode cX3_addRoad 63 = .ok (.iastore, 1) := by decide +kernel
theorem dX3_addRoad_64 : decode cX3_addRoad 64 = .ok (.aload_n 0, 1) := by decide +kernel
theorem dX3_addRoad_65 : decode cX3_addRoad 65 = .ok (.dup, 1) := by decide +kernel
theorem dX3_addRoad_66 : decode cX3_addRoad 66 = .ok (.getfield 15, 3) := by decide +kernel
theorem dX3_addRoad_69 : decode cX3_addRoad 69 = .ok (.iconst 1, 1) := by decide +kernel
theorem dX3_addRoad_70 : decode cX3_addRoad 70 = .ok (.iadd, 1) := by decide +kernel
theorem dX3_addRoad_71 : decode cX3_addRoad 71 = .ok (.putfield 15, 3) := by decide +kernel
theorem dX3_addRoad_74 : decode cX3_addRoad 74 = .ok (.return_, 1) := by decide +kernel
theorem dX3_removeRoad_0 : decode cX3_removeRoad 0 = .ok (.iload_n 1, 1) := by decide +kernel
theorem dX3_removeRoad_1 : decode cX3_removeRoad 1 = .ok (.iconst 1, 1) := by decide +kernel
theorem dX3_removeRoad_2 : decode cX3_removeRoad 2 = .ok (.iadd, 1) := by decide +kernel
theorem dX3_removeRoad_3 : decode cX3_removeRoad 3 = .ok (.istore_n 2, 1) := by decide +kernel
theorem dX3_removeRoad_4 : decode cX3_removeRoad 4 = .ok (.iload_n 2, 1) := by decide +kernel
theorem dX3_removeRoad_5 : decode cX3_removeRoad 5 = .ok (.aload_n 0, 1) := by decide +kernel
theorem dX3_removeRoad_6 : decode cX3_removeRoad 6 = .ok (.getfield 15, 3) := by decide +kernel
theorem dX3_removeRoad_9 : decode cX3_removeRoad 9 = .ok (.if_icmp .ge 65, 3) := by decide +kernel
theorem dX3_removeRoad_12 : decode cX3_removeRoad 12 = .ok (.aload_n 0, 1) := by decide +kernel
theorem dX3_removeRoad_13 : decode cX3_removeRoad 13 = .ok (.getfield 18, 3) := by decide +kernel
theorem dX3_removeRoad_16 : decode cX3_removeRoad 16 = .ok (.iload_n 2, 1) := by decide +kernel
theorem dX3_removeRoad_17 : decode cX3_removeRoad 17 = .ok (.iconst 1, 1) := by decide +kernel
theorem dX3_removeRoad_18 : decode cX3_removeRoad 18 = .ok (.isub, 1) := by decide +kernel
theorem dX3_removeRoad_19 : decode cX3_removeRoad 19 = .ok (.aload_n 0, 1) := by decide +kernel
theorem dX3_removeRoad_20 : decode cX3_removeRoad 20 = .ok (.getfield 18, 3) := by decide +kernel
theorem dX3_removeRoad_23 : decode cX3_removeRoad 23 = .ok (.iload_n 2, 1) := by decide +kernel
theorem dX3_removeRoad_24 : decode cX3_removeRoad 24 = .ok (.iaload, 1) := by decide +kernel
theorem dX3_removeRoad_25 : decode cX3_removeRoad 25 = .ok (.iastore, 1) := by decide +kernel
theorem dX3_removeRoad_26 : decode cX3_removeRoad 26 = .ok (.aload_n 0, 1) := by decide +kernel
theorem dX3_removeRoad_27 : decode cX3_removeRoad 27 = .ok (.getfield 22, 3) := by decide +kernel
theorem dX3_removeRoad_30 : decode cX3_removeRoad 30 = .ok (.iload_n 2, 1) := by decide +kernel
theorem dX3_removeRoad_31 : decode cX3_removeRoad 31 = .ok (.iconst 1, 1) := by decide +kernel
theorem dX3_removeRoad_32 : decode cX3_removeRoad 32 = .ok (.isub, 1) := by decide +kernel
theorem dX3_removeRoad_33 : decode cX3_removeRoad 33 = .ok (.aload_n 0, 1) := by decide +kernel
theorem dX3_removeRoad_34 : decode cX3_removeRoad 34 = .ok (.getfield 22, 3) := by decide +kernel
theorem dX3_removeRoad_37 : decode cX3_removeRoad 37 = .ok (.iload_n 2, 1) := by decide +kernel
theorem dX3_removeRoad_38 : decode cX3_removeRoad 38 = .ok (.iaload, 1) := by decide +kernel
theorem dX3_removeRoad_39 : decode cX3_removeRoad 39 = .ok (.iastore, 1) := by decide +kernel
theorem dX3_removeRoad_40 : decode cX3_removeRoad 40 = .ok (.aload_n 0, 1) := by decide +kernel
theorem dX3_removeRoad_41 : decode cX3_removeRoad 41 = .ok (.getfield 25, 3) := by decide +kernel
theorem dX3_removeRoad_44 : decode cX3_removeRoad 44 = .ok (.iload_n 2, 1) := by decide +kernel
theorem dX3_removeRoad_45 : decode cX3_removeRoad 45 = .ok (.iconst 1, 1) := by decide +kernel
theorem dX3_removeRoad_46 : decode cX3_removeRoad 46 = .ok (.isub, 1) := by decide +kernel
theorem dX3_removeRoad_47 : decode cX3_removeRoad 47 = .ok (.aload_n 0, 1) := by decide +kernel
theorem dX3_removeRoad_48 : decode cX3_removeRoad 48 = .ok (.getfield 25, 3) := by decide +kernel
theorem dX3_removeRoad_51 : decode cX3_removeRoad 51 = .ok (.iload_n 2, 1) := by decide +kernel
theorem dX3_removeRoad_52 : decode cX3_removeRoad 52 = .ok (.iaload, 1) := by decide +kernel
theorem dX3_removeRoad_53 : decode cX3_removeRoad 53 = .ok (.iastore, 1) := by decide +kernel
theorem dX3_removeRoad_54 : decode cX3_removeRoad 54 = .ok (.aload_n 0, 1) := by decide +kernel
theorem dX3_removeRoad_55 : decode cX3_removeRoad 55 = .ok (.getfield 28, 3) := by decide +kernel
theorem dX3_removeRoad_58 : decode cX3_removeRoad 58 = .ok (.iload_n 2, 1) := by decide +kernel
theorem dX3_removeRoad_59 : decode cX3_removeRoad 59 = .ok (.iconst 1, 1) := by decide +kernel
theorem dX3_removeRoad_60 : decode cX3_removeRoad 60 = .ok (.isub, 1) := by decide +kernel
theorem dX3_removeRoad_61 : decode cX3_removeRoad 61 = .ok (.aload_n 0, 1) := by decide +kernel
theorem dX3_removeRoad_62 : decode cX3_removeRoad 62 = .ok (.getfield 28, 3) := by decide +kernel
theorem dX3_removeRoad_65 : decode cX3_removeRoad 65 = .ok (.iload_n 2, 1) := by decide +kernel
theorem dX3_removeRoad_66 : decode cX3_removeRoad 66 = .ok (.iaload, 1) := by decide +kernel
theorem dX3_removeRoad_67 : decode cX3_removeRoad 67 = .ok (.iastore, 1) := by decide +kernel
theorem dX3_removeRoad_68 : decode cX3_removeRoad 68 = .ok (.iinc 2 1, 3) := by decide +kernel
theorem dX3_removeRoad_71 : decode cX3_removeRoad 71 = .ok (.goto (-67), 3) := by decide +kernel
theorem dX3_removeRoad_74 : decode cX3_removeRoad 74 = .ok (.aload_n 0, 1) := by decide +kernel
theorem dX3_removeRoad_75 : decode cX3_removeRoad 75 = .ok (.dup, 1) := by decide +kernel
theorem dX3_removeRoad_76 : decode cX3_removeRoad 76 = .ok (.getfield 15, 3) := by decide +kernel
theorem dX3_removeRoad_79 : decode cX3_removeRoad 79 = .ok (.iconst 1, 1) := by decide +kernel
theorem dX3_removeRoad_80 : decode cX3_removeRoad 80 = .ok (.isub, 1) := by decide +kernel
theorem dX3_removeRoad_81 : decode cX3_removeRoad 81 = .ok (.putfield 15, 3) := by decide +kernel
theorem dX3_removeRoad_84 : decode cX3_removeRoad 84 = .ok (.return_, 1) := by decide +kernel
theorem dX3_allRoads_0 : decode cX3_allRoads 0 = .ok (.iconst 1, 1) := by decide +kernel
theorem dX3_allRoads_1 : decode cX3_allRoads 1 = .ok (.aload_n 0, 1) := by decide +kernel
theorem dX3_allRoads_2 : decode cX3_allRoads 2 = .ok (.getfield 15, 3) := by decide +kernel
theorem dX3_allRoads_5 : decode cX3_allRoads 5 = .ok (.ishl, 1) := by decide +kernel
theorem dX3_allRoads_6 : decode cX3_allRoads 6 = .ok (.iconst 1, 1) := by decide +kernel
theorem dX3_allRoads_7 : decode cX3_allRoads 7 = .ok (.isub, 1) := by decide +kernel
theorem dX3_allRoads_8 : decode cX3_allRoads 8 = .ok (.ireturn, 1) := by decide +kernel
theorem dX3_roadsAt_0 : decode cX3_roadsAt 0 = .ok (.iconst 0, 1) := by decide +kernel
theorem dX3_roadsAt_1 : decode cX3_roadsAt 1 = .ok (.istore_n 2, 1) := by decide +kernel
theorem dX3_roadsAt_2 : decode cX3_roadsAt 2 = .ok (.iconst 0, 1) := by decide +kernel
theorem dX3_roadsAt_3 : decode cX3_roadsAt 3 = .ok (.istore_n 3, 1) := by decide +kernel
theorem dX3_roadsAt_4 : decode cX3_roadsAt 4 = .ok (.iload_n 3, 1) := by decide +kernel
theorem dX3_roadsAt_5 : decode cX3_roadsAt 5 = .ok (.aload_n 0, 1) := by decide +kernel
theorem dX3_roadsAt_6 : decode cX3_roadsAt 6 = .ok (.getfield 15, 3) := by decide +kernel
theorem dX3_roadsAt_9 : decode cX3_roadsAt 9 = .ok (.if_icmp .ge 28, 3) := by decide +kernel
theorem dX3_roadsAt_12 : decode cX3_roadsAt 12 = .ok (.aload_n 0, 1) := by decide +kernel
theorem dX3_roadsAt_13 : decode cX3_roadsAt 13 = .ok (.getfield 28, 3) := by decide +kernel
theorem dX3_roadsAt_16 : decode cX3_roadsAt 16 = .ok (.iload_n 3, 1) := by decide +kernel
theorem dX3_roadsAt_17 : decode cX3_roadsAt 17 = .ok (.iaload, 1) := by decide +kernel
theorem dX3_roadsAt_18 : decode cX3_roadsAt 18 = .ok (.iload_n 1, 1) := by decide +kernel
theorem dX3_roadsAt_19 : decode cX3_roadsAt 19 = .ok (.invokestatic 46, 3) := by decide +kernel
theorem dX3_roadsAt_22 : decode cX3_roadsAt 22 = .ok (.ifCond .eq 9, 3) := by decide +kernel
theorem dX3_roadsAt_25 : decode cX3_roadsAt 25 = .ok (.iload_n 2, 1) := by decide +kernel
theorem dX3_roadsAt_26 : decode cX3_roadsAt 26 = .ok (.iconst 1, 1) := by decide +kernel
theorem dX3_roadsAt_27 : decode cX3_roadsAt 27 = .ok (.iload_n 3, 1) := by decide +kernel
theorem dX3_roadsAt_28 : decode cX3_roadsAt 28 = .ok (.ishl, 1) := by decide +kernel
theorem dX3_roadsAt_29 : decode cX3_roadsAt 29 = .ok (.ior, 1) := by decide +kernel
theorem dX3_roadsAt_30 : decode cX3_roadsAt 30 = .ok (.istore_n 2, 1) := by decide +kernel
theorem dX3_roadsAt_31 : decode cX3_roadsAt 31 = .ok (.iinc 3 1, 3) := by decide +kernel
theorem dX3_roadsAt_34 : decode cX3_roadsAt 34 = .ok (.goto (-30), 3) := by decide +kernel
theorem dX3_roadsAt_37 : decode cX3_roadsAt 37 = .ok (.iload_n 2, 1) := by decide +kernel
theorem dX3_roadsAt_38 : decode cX3_roadsAt 38 = .ok (.ireturn, 1) := by decide +kernel
theorem dX3_roadsWithin_0 : decode cX3_roadsWithin 0 = .ok (.iconst 0, 1) := by decide +kernel
theorem dX3_roadsWithin_1 : decode cX3_roadsWithin 1 = .ok (.istore_n 2, 1) := by decide +kernel
theorem dX3_roadsWithin_2 : decode cX3_roadsWithin 2 = .ok (.iconst 0, 1) := by decide +kernel
theorem dX3_roadsWithin_3 : decode cX3_roadsWithin 3 = .ok (.istore_n 3, 1) := by decide +kernel
theorem dX3_roadsWithin_4 : decode cX3_roadsWithin 4 = .ok (.iload_n 3, 1) := by decide +kernel
theorem dX3_roadsWithin_5 : decode cX3_roadsWithin 5 = .ok (.aload_n 0, 1) := by decide +kernel
theorem dX3_roadsWithin_6 : decode cX3_roadsWithin 6 = .ok (.getfield 15, 3) := by decide +kernel
theorem dX3_roadsWithin_9 : decode cX3_roadsWithin 9 = .ok (.if_icmp .ge 28, 3) := by decide +kernel
theorem dX3_roadsWithin_12 : decode cX3_roadsWithin 12 = .ok (.aload_n 0, 1) := by decide +kernel
theorem dX3_roadsWithin_13 : decode cX3_roadsWithin 13 = .ok (.getfield 28, 3) := by decide +kernel
theorem dX3_roadsWithin_16 : decode cX3_roadsWithin 16 = .ok (.iload_n 3, 1) := by decide +kernel
theorem dX3_roadsWithin_17 : decode cX3_roadsWithin 17 = .ok (.iaload, 1) := by decide +kernel
theorem dX3_roadsWithin_18 : decode cX3_roadsWithin 18 = .ok (.iload_n 1, 1) := by decide +kernel
theorem dX3_roadsWithin_19 : decode cX3_roadsWithin 19 = .ok (.iconst (-1), 1) := by decide +kernel
theorem dX3_roadsWithin_20 : decode cX3_roadsWithin 20 = .ok (.ixor, 1) := by decide +kernel
theorem dX3_roadsWithin_21 : decode cX3_roadsWithin 21 = .ok (.iand, 1) := by decide +kernel
theorem dX3_roadsWithin_22 : decode cX3_roadsWithin 22 = .ok (.ifCond .ne 9, 3) := by decide +kernel
theorem dX3_roadsWithin_25 : decode cX3_roadsWithin 25 = .ok (.iload_n 2, 1) := by decide +kernel
theorem dX3_roadsWithin_26 : decode cX3_roadsWithin 26 = .ok (.iconst 1, 1) := by decide +kernel
theorem dX3_roadsWithin_27 : decode cX3_roadsWithin 27 = .ok (.iload_n 3, 1) := by decide +kernel
theorem dX3_roadsWithin_28 : decode cX3_roadsWithin 28 = .ok (.ishl, 1) := by decide +kernel
theorem dX3_roadsWithin_29 : decode cX3_roadsWithin 29 = .ok (.ior, 1) := by decide +kernel
theorem dX3_roadsWithin_30 : decode cX3_roadsWithin 30 = .ok (.istore_n 2, 1) := by decide +kernel
theorem dX3_roadsWithin_31 : decode cX3_roadsWithin 31 = .ok (.iinc 3 1, 3) := by decide +kernel
theorem dX3_roadsWithin_34 : decode cX3_roadsWithin 34 = .ok (.goto (-30), 3) := by decide +kernel
theorem dX3_roadsWithin_37 : decode cX3_roadsWithin 37 = .ok (.iload_n 2, 1) := by decide +kernel
theorem dX3_roadsWithin_38 : decode cX3_roadsWithin 38 = .ok (.ireturn, 1) := by decide +kernel
theorem dX3_lengthOf_0 : decode cX3_lengthOf 0 = .ok (.iconst 0, 1) := by decide +kernel
theorem dX3_lengthOf_1 : decode cX3_lengthOf 1 = .ok (.istore_n 2, 1) := by decide +kernel
theorem dX3_lengthOf_2 : decode cX3_lengthOf 2 = .ok (.iconst 0, 1) := by decide +kernel
theorem dX3_lengthOf_3 : decode cX3_lengthOf 3 = .ok (.istore_n 3, 1) := by decide +kernel
theorem dX3_lengthOf_4 : decode cX3_lengthOf 4 = .ok (.iload_n 3, 1) := by decide +kernel
theorem dX3_lengthOf_5 : decode cX3_lengthOf 5 = .ok (.aload_n 0, 1) := by decide +kernel
theorem dX3_lengthOf_6 : decode cX3_lengthOf 6 = .ok (.getfield 15, 3) := by decide +kernel
theorem dX3_lengthOf_9 : decode cX3_lengthOf 9 = .ok (.if_icmp .ge 26, 3) := by decide +kernel
theorem dX3_lengthOf_12 : decode cX3_lengthOf 12 = .ok (.iload_n 1, 1) := by decide +kernel
theorem dX3_lengthOf_13 : decode cX3_lengthOf 13 = .ok (.iload_n 3, 1) := by decide +kernel
theorem dX3_lengthOf_14 : decode cX3_lengthOf 14 = .ok (.invokestatic 46, 3) := by decide +kernel
theorem dX3_lengthOf_17 : decode cX3_lengthOf 17 = .ok (.ifCond .eq 12, 3) := by decide +kernel
theorem dX3_lengthOf_20 : decode cX3_lengthOf 20 = .ok (.iload_n 2, 1) := by decide +kernel
theorem dX3_lengthOf_21 : decode cX3_lengthOf 21 = .ok (.aload_n 0, 1) := by decide +kernel
theorem dX3_lengthOf_22 : decode cX3_lengthOf 22 = .ok (.getfield 25, 3) := by decide +kernel
theorem dX3_lengthOf_25 : decode cX3_lengthOf 25 = .ok (.iload_n 3, 1) := by decide +kernel
theorem dX3_lengthOf_26 : decode cX3_lengthOf 26 = .ok (.iaload, 1) := by decide +kernel
theorem dX3_lengthOf_27 : decode cX3_lengthOf 27 = .ok (.iadd, 1) := by decide +kernel
theorem dX3_lengthOf_28 : decode cX3_lengthOf 28 = .ok (.istore_n 2, 1) := by decide +kernel
theorem dX3_lengthOf_29 : decode cX3_lengthOf 29 = .ok (.iinc 3 1, 3) := by decide +kernel
theorem dX3_lengthOf_32 : decode cX3_lengthOf 32 = .ok (.goto (-28), 3) := by decide +kernel
theorem dX3_lengthOf_35 : decode cX3_lengthOf 35 = .ok (.iload_n 2, 1) := by decide +kernel
theorem dX3_lengthOf_36 : decode cX3_lengthOf 36 = .ok (.ireturn, 1) := by decide +kernel
theorem dX3_oneRoadFurther_0 : decode cX3_oneRoadFurther 0 = .ok (.iload_n 1, 1) := by decide +kernel
theorem dX3_oneRoadFurther_1 : decode cX3_oneRoadFurther 1 = .ok (.istore_n 3, 1) := by decide +kernel
theorem dX3_oneRoadFurther_2 : decode cX3_oneRoadFurther 2 = .ok (.iconst 0, 1) := by decide +kernel
theorem dX3_oneRoadFurther_3 : decode cX3_oneRoadFurther 3 = .ok (.istore 4, 2) := by decide +kernel
theorem dX3_oneRoadFurther_5 : decode cX3_oneRoadFurther 5 = .ok (.iload 4, 2) := by decide +kernel
theorem dX3_oneRoadFurther_7 : decode cX3_oneRoadFurther 7 = .ok (.aload_n 0, 1) := by decide +kernel
theorem dX3_oneRoadFurther_8 : decode cX3_oneRoadFurther 8 = .ok (.getfield 15, 3) := by decide +kernel
theorem dX3_oneRoadFurther_11 : decode cX3_oneRoadFurther 11 = .ok (.if_icmp .ge 40, 3) := by decide +kernel
theorem dX3_oneRoadFurther_14 : decode cX3_oneRoadFurther 14 = .ok (.iload_n 2, 1) := by decide +kernel
theorem dX3_oneRoadFurther_15 : decode cX3_oneRoadFurther 15 = .ok (.iload 4, 2) := by decide +kernel
theorem dX3_oneRoadFurther_17 : decode cX3_oneRoadFurther 17 = .ok (.invokestatic 46, 3) := by decide +kernel
theorem dX3_oneRoadFurther_20 : decode cX3_oneRoadFurther 20 = .ok (.ifCond .eq 25, 3) := by decide +kernel
theorem dX3_oneRoadFurther_23 : decode cX3_oneRoadFurther 23 = .ok (.aload_n 0, 1) := by decide +kernel
theorem dX3_oneRoadFurther_24 : decode cX3_oneRoadFurther 24 = .ok (.getfield 28, 3) := by decide +kernel
theorem dX3_oneRoadFurther_27 : decode cX3_oneRoadFurther 27 = .ok (.iload 4, 2) := by decide +kernel
theorem dX3_oneRoadFurther_29 : decode cX3_oneRoadFurther 29 = .ok (.iaload, 1) := by decide +kernel
theorem dX3_oneRoadFurther_30 : decode cX3_oneRoadFurther 30 = .ok (.iload_n 1, 1) := by decide +kernel
theorem dX3_oneRoadFurther_31 : decode cX3_oneRoadFurther 31 = .ok (.iand, 1) := by decide +kernel
theorem dX3_oneRoadFurther_32 : decode cX3_oneRoadFurther 32 = .ok (.ifCond .eq 13, 3) := by decide +kernel
theorem dX3_oneRoadFurther_35 : decode cX3_oneRoadFurther 35 = .ok (.iload_n 3, 1) := by decide +kernel
theorem dX3_oneRoadFurther_36 : decode cX3_oneRoadFurther 36 = .ok (.aload_n 0, 1) := by decide +kernel
theorem dX3_oneRoadFurther_37 : decode cX3_oneRoadFurther 37 = .ok (.getfield 28, 3) := by decide +kernel
theorem dX3_oneRoadFurther_40 : decode cX3_oneRoadFurther 40 = .ok (.iload 4, 2) := by decide +kernel
theorem dX3_oneRoadFurther_42 : decode cX3_oneRoadFurther 42 = .ok (.iaload, 1) := by decide +kernel
theorem dX3_oneRoadFurther_43 : decode cX3_oneRoadFurther 43 = .ok (.ior, 1) := by decide +kernel
theorem dX3_oneRoadFurther_44 : decode cX3_oneRoadFurther 44 = .ok (.istore_n 3, 1) := by decide +kernel
theorem dX3_oneRoadFurther_45 : decode cX3_oneRoadFurther 45 = .ok (.iinc 4 1, 3) := by decide +kernel
theorem dX3_oneRoadFurther_48 : decode cX3_oneRoadFurther 48 = .ok (.goto (-43), 3) := by decide +kernel
theorem dX3_oneRoadFurther_51 : decode cX3_oneRoadFurther 51 = .ok (.iload_n 3, 1) := by decide +kernel
theorem dX3_oneRoadFurther_52 : decode cX3_oneRoadFurther 52 = .ok (.ireturn, 1) := by decide +kernel
theorem dX3_reach_0 : decode cX3_reach 0 = .ok (.iconst 1, 1) := by decide +kernel
theorem dX3_reach_1 : decode cX3_reach 1 = .ok (.iload_n 1, 1) := by decide +kernel
theorem dX3_reach_2 : decode cX3_reach 2 = .ok (.ishl, 1) := by decide +kernel
theorem dX3_reach_3 : decode cX3_reach 3 = .ok (.istore_n 3, 1) := by decide +kernel
theorem dX3_reach_4 : decode cX3_reach 4 = .ok (.iconst 0, 1) := by decide +kernel
theorem dX3_reach_5 : decode cX3_reach 5 = .ok (.istore 4, 2) := by decide +kernel
theorem dX3_reach_7 : decode cX3_reach 7 = .ok (.iconst 0, 1) := by decide +kernel
theorem dX3_reach_8 : decode cX3_reach 8 = .ok (.istore 5, 2) := by decide +kernel
theorem dX3_reach_10 : decode cX3_reach 10 = .ok (.iload 5, 2) := by decide +kernel
theorem dX3_reach_12 : decode cX3_reach 12 = .ok (.bipush 16, 2) := by decide +kernel
theorem dX3_reach_14 : decode cX3_reach 14 = .ok (.if_icmp .ge 67, 3) := by decide +kernel
theorem dX3_reach_17 : decode cX3_reach 17 = .ok (.iload_n 3, 1) := by decide +kernel
theorem dX3_reach_18 : decode cX3_reach 18 = .ok (.iload 4, 2) := by decide +kernel
theorem dX3_reach_20 : decode cX3_reach 20 = .ok (.if_icmp .eq 61, 3) := by decide +kernel
theorem dX3_reach_23 : decode cX3_reach 23 = .ok (.iload_n 3, 1) := by decide +kernel
theorem dX3_reach_24 : decode cX3_reach 24 = .ok (.istore 4, 2) := by decide +kernel
theorem dX3_reach_26 : decode cX3_reach 26 = .ok (.iconst 0, 1) := by decide +kernel
theorem dX3_reach_27 : decode cX3_reach 27 = .ok (.istore 6, 2) := by decide +kernel
theorem dX3_reach_29 : decode cX3_reach 29 = .ok (.iload 6, 2) := by decide +kernel
theorem dX3_reach_31 : decode cX3_reach 31 = .ok (.aload_n 0, 1) := by decide +kernel
theorem dX3_reach_32 : decode cX3_reach 32 = .ok (.getfield 15, 3) := by decide +kernel
theorem dX3_reach_35 : decode cX3_reach 35 = .ok (.if_icmp .ge 40, 3) := by decide +kernel
theorem dX3_reach_38 : decode cX3_reach 38 = .ok (.iload_n 2, 1) := by decide +kernel
theorem dX3_reach_39 : decode cX3_reach 39 = .ok (.iload 6, 2) := by decide +kernel
theorem dX3_reach_41 : decode cX3_reach 41 = .ok (.invokestatic 46, 3) := by decide +kernel
theorem dX3_reach_44 : decode cX3_reach 44 = .ok (.ifCond .eq 25, 3) := by decide +kernel
theorem dX3_reach_47 : decode cX3_reach 47 = .ok (.aload_n 0, 1) := by decide +kernel
theorem dX3_reach_48 : decode cX3_reach 48 = .ok (.getfield 28, 3) := by decide +kernel
theorem dX3_reach_51 : decode cX3_reach 51 = .ok (.iload 6, 2) := by decide +kernel
theorem dX3_reach_53 : decode cX3_reach 53 = .ok (.iaload, 1) := by decide +kernel
theorem dX3_reach_54 : decode cX3_reach 54 = .ok (.iload_n 3, 1) := by decide +kernel
theorem dX3_reach_55 : decode cX3_reach 55 = .ok (.iand, 1) := by decide +kernel
theorem dX3_reach_56 : decode cX3_reach 56 = .ok (.ifCond .eq 13, 3) := by decide +kernel
theorem dX3_reach_59 : decode cX3_reach 59 = .ok (.iload_n 3, 1) := by decide +kernel
theorem dX3_reach_60 : decode cX3_reach 60 = .ok (.aload_n 0, 1) := by decide +kernel
theorem dX3_reach_61 : decode cX3_reach 61 = .ok (.getfield 28, 3) := by decide +kernel
theorem dX3_reach_64 : decode cX3_reach 64 = .ok (.iload 6, 2) := by decide +kernel
theorem dX3_reach_66 : decode cX3_reach 66 = .ok (.iaload, 1) := by decide +kernel
theorem dX3_reach_67 : decode cX3_reach 67 = .ok (.ior, 1) := by decide +kernel
theorem dX3_reach_68 : decode cX3_reach 68 = .ok (.istore_n 3, 1) := by decide +kernel
theorem dX3_reach_69 : decode cX3_reach 69 = .ok (.iinc 6 1, 3) := by decide +kernel
theorem dX3_reach_72 : decode cX3_reach 72 = .ok (.goto (-43), 3) := by decide +kernel
theorem dX3_reach_75 : decode cX3_reach 75 = .ok (.iinc 5 1, 3) := by decide +kernel
theorem dX3_reach_78 : decode cX3_reach 78 = .ok (.goto (-68), 3) := by decide +kernel
theorem dX3_reach_81 : decode cX3_reach 81 = .ok (.iload_n 3, 1) := by decide +kernel
theorem dX3_reach_82 : decode cX3_reach 82 = .ok (.ireturn, 1) := by decide +kernel
theorem dX4_init_0 : decode cX4_init 0 = .ok (.aload_n 0, 1) := by decide +kernel
theorem dX4_init_1 : decode cX4_init 1 = .ok (.invokespecial 1, 3) := by decide +kernel
theorem dX4_init_4 : decode cX4_init 4 = .ok (.aload_n 0, 1) := by decide +kernel
theorem dX4_init_5 : decode cX4_init 5 = .ok (.new 7, 3) := by decide +kernel
theorem dX4_init_8 : decode cX4_init 8 = .ok (.dup, 1) := by decide +kernel
theorem dX4_init_9 : decode cX4_init 9 = .ok (.invokespecial 9, 3) := by decide +kernel
theorem dX4_init_12 : decode cX4_init 12 = .ok (.putfield 10, 3) := by decide +kernel
theorem dX4_init_15 : decode cX4_init 15 = .ok (.aload_n 0, 1) := by decide +kernel
theorem dX4_init_16 : decode cX4_init 16 = .ok (.new 16, 3) := by decide +kernel
theorem dX4_init_19 : decode cX4_init 19 = .ok (.dup, 1) := by decide +kernel
theorem dX4_init_20 : decode cX4_init 20 = .ok (.aload_n 0, 1) := by decide +kernel
theorem dX4_init_21 : decode cX4_init 21 = .ok (.getfield 10, 3) := by decide +kernel
theorem dX4_init_24 : decode cX4_init 24 = .ok (.invokespecial 18, 3) := by decide +kernel
theorem dX4_init_27 : decode cX4_init 27 = .ok (.putfield 21, 3) := by decide +kernel
theorem dX4_init_30 : decode cX4_init 30 = .ok (.aload_n 0, 1) := by decide +kernel
theorem dX4_init_31 : decode cX4_init 31 = .ok (.new 25, 3) := by decide +kernel
theorem dX4_init_34 : decode cX4_init 34 = .ok (.dup, 1) := by decide +kernel
theorem dX4_init_35 : decode cX4_init 35 = .ok (.invokespecial 27, 3) := by decide +kernel
theorem dX4_init_38 : decode cX4_init 38 = .ok (.putfield 28, 3) := by decide +kernel
theorem dX4_init_41 : decode cX4_init 41 = .ok (.aload_n 0, 1) := by decide +kernel
theorem dX4_init_42 : decode cX4_init 42 = .ok (.new 32, 3) := by decide +kernel
theorem dX4_init_45 : decode cX4_init 45 = .ok (.dup, 1) := by decide +kernel
theorem dX4_init_46 : decode cX4_init 46 = .ok (.invokespecial 34, 3) := by decide +kernel
theorem dX4_init_49 : decode cX4_init 49 = .ok (.putfield 35, 3) := by decide +kernel
theorem dX4_init_52 : decode cX4_init 52 = .ok (.aload_n 0, 1) := by decide +kernel
theorem dX4_init_53 : decode cX4_init 53 = .ok (.iconst 2, 1) := by decide +kernel
theorem dX4_init_54 : decode cX4_init 54 = .ok (.anewarray 7, 3) := by decide +kernel
theorem dX4_init_57 : decode cX4_init 57 = .ok (.putfield 39, 3) := by decide +kernel
theorem dX4_init_60 : decode cX4_init 60 = .ok (.iconst 0, 1) := by decide +kernel
theorem dX4_init_61 : decode cX4_init 61 = .ok (.istore_n 1, 1) := by decide +kernel
theorem dX4_init_62 : decode cX4_init 62 = .ok (.iload_n 1, 1) := by decide +kernel
theorem dX4_init_63 : decode cX4_init 63 = .ok (.iconst 2, 1) := by decide +kernel
theorem dX4_init_64 : decode cX4_init 64 = .ok (.if_icmp .ge 22, 3) := by decide +kernel
theorem dX4_init_67 : decode cX4_init 67 = .ok (.aload_n 0, 1) := by decide +kernel
theorem dX4_init_68 : decode cX4_init 68 = .ok (.getfield 39, 3) := by decide +kernel
theorem dX4_init_71 : decode cX4_init 71 = .ok (.iload_n 1, 1) := by decide +kernel
theorem dX4_init_72 : decode cX4_init 72 = .ok (.new 7, 3) := by decide +kernel
theorem dX4_init_75 : decode cX4_init 75 = .ok (.dup, 1) := by decide +kernel
theorem dX4_init_76 : decode cX4_init 76 = .ok (.invokespecial 9, 3) := by decide +kernel
theorem dX4_init_79 : decode cX4_init 79 = .ok (.aastore, 1) := by decide +kernel
theorem dX4_init_80 : decode cX4_init 80 = .ok (.iinc 1 1, 3) := by decide +kernel
theorem dX4_init_83 : decode cX4_init 83 = .ok (.goto (-21), 3) := by decide +kernel
theorem dX4_init_86 : decode cX4_init 86 = .ok (.aload_n 0, 1) := by decide +kernel
theorem dX4_init_87 : decode cX4_init 87 = .ok (.iconst 2, 1) := by decide +kernel
theorem dX4_init_88 : decode cX4_init 88 = .ok (.newarray .boolean, 2) := by decide +kernel
theorem dX4_init_90 : decode cX4_init 90 = .ok (.putfield 43, 3) := by decide +kernel
theorem dX4_init_93 : decode cX4_init 93 = .ok (.return_, 1) := by decide +kernel
theorem dX4_squares_0 : decode cX4_squares 0 = .ok (.iload_n 1, 1) := by decide +kernel
theorem dX4_squares_1 : decode cX4_squares 1 = .ok (.iconst 2, 1) := by decide +kernel
theorem dX4_squares_2 : decode cX4_squares 2 = .ok (.if_icmp .lt 9, 3) := by decide +kernel
theorem dX4_squares_5 : decode cX4_squares 5 = .ok (.iload_n 1, 1) := by decide +kernel
theorem dX4_squares_6 : decode cX4_squares 6 = .ok (.bipush 16, 2) := by decide +kernel
theorem dX4_squares_8 : decode cX4_squares 8 = .ok (.if_icmp .le 6, 3) := by decide +kernel
theorem dX4_squares_11 : decode cX4_squares 11 = .ok (.bipush (-2), 2) := by decide +kernel
theorem dX4_squares_13 : decode cX4_squares 13 = .ok (.ireturn, 1) := by decide +kernel
theorem dX4_squares_14 : decode cX4_squares 14 = .ok (.aload_n 0, 1) := by decide +kernel
theorem dX4_squares_15 : decode cX4_squares 15 = .ok (.getfield 10, 3) := by decide +kernel
theorem dX4_squares_18 : decode cX4_squares 18 = .ok (.iload_n 1, 1) := by decide +kernel
theorem dX4_squares_19 : decode cX4_squares 19 = .ok (.invokevirtual 47, 3) := by decide +kernel
theorem dX4_squares_22 : decode cX4_squares 22 = .ok (.ifCond .ne 6, 3) := by decide +kernel
theorem dX4_squares_25 : decode cX4_squares 25 = .ok (.bipush (-5), 2) := by decide +kernel
theorem dX4_squares_27 : decode cX4_squares 27 = .ok (.ireturn, 1) := by decide +kernel
theorem dX4_squares_28 : decode cX4_squares 28 = .ok (.aload_n 0, 1) := by decide +kernel
theorem dX4_squares_29 : decode cX4_squares 29 = .ok (.getfield 10, 3) := by decide +kernel
theorem dX4_squares_32 : decode cX4_squares 32 = .ok (.getfield 51, 3) := by decide +kernel
theorem dX4_squares_35 : decode cX4_squares 35 = .ok (.istore_n 2, 1) := by decide +kernel
theorem dX4_squares_36 : decode cX4_squares 36 = .ok (.aload_n 0, 1) := by decide +kernel
theorem dX4_squares_37 : decode cX4_squares 37 = .ok (.getfield 35, 3) := by decide +kernel
theorem dX4_squares_40 : decode cX4_squares 40 = .ok (.aload_n 0, 1) := by decide +kernel
theorem dX4_squares_41 : decode cX4_squares 41 = .ok (.getfield 10, 3) := by decide +kernel
theorem dX4_squares_44 : decode cX4_squares 44 = .ok (.invokevirtual 55, 3) := by decide +kernel
theorem dX4_squares_47 : decode cX4_squares 47 = .ok (.aload_n 0, 1) := by decide +kernel
theorem dX4_squares_48 : decode cX4_squares 48 = .ok (.getfield 10, 3) := by decide +kernel
theorem dX4_squares_51 : decode cX4_squares 51 = .ok (.iload_n 1, 1) := by decide +kernel
theorem dX4_squares_52 : decode cX4_squares 52 = .ok (.putfield 51, 3) := by decide +kernel
theorem dX4_squares_55 : decode cX4_squares 55 = .ok (.aload_n 0, 1) := by decide +kernel
theorem dX4_squares_56 : decode cX4_squares 56 = .ok (.getfield 21, 3) := by decide +kernel
theorem dX4_squares_59 : decode cX4_squares 59 = .ok (.invokevirtual 58, 3) := by decide +kernel
theorem dX4_squares_62 : decode cX4_squares 62 = .ok (.iload_n 2, 1) := by decide +kernel
theorem dX4_squares_63 : decode cX4_squares 63 = .ok (.ireturn, 1) := by decide +kernel
theorem dX4_build_0 : decode cX4_build 0 = .ok (.aload_n 0, 1) := by decide +kernel
theorem dX4_build_1 : decode cX4_build 1 = .ok (.getfield 10, 3) := by decide +kernel
theorem dX4_build_4 : decode cX4_build 4 = .ok (.iload_n 1, 1) := by decide +kernel
theorem dX4_build_5 : decode cX4_build 5 = .ok (.invokevirtual 61, 3) := by decide +kernel
theorem dX4_build_8 : decode cX4_build 8 = .ok (.ifCond .eq 14, 3) := by decide +kernel
theorem dX4_build_11 : decode cX4_build 11 = .ok (.aload_n 0, 1) := by decide +kernel
theorem dX4_build_12 : decode cX4_build 12 = .ok (.getfield 10, 3) := by decide +kernel
theorem dX4_build_15 : decode cX4_build 15 = .ok (.iload_n 2, 1) := by decide +kernel
theorem dX4_build_16 : decode cX4_build 16 = .ok (.invokevirtual 61, 3) := by decide +kernel
theorem dX4_build_19 : decode cX4_build 19 = .ok (.ifCond .ne 5, 3) := by decide +kernel
theorem dX4_build_22 : decode cX4_build 22 = .ok (.iconst (-1), 1) := by decide +kernel
theorem dX4_build_23 : decode cX4_build 23 = .ok (.ireturn, 1) := by decide +kernel
theorem dX4_build_24 : decode cX4_build 24 = .ok (.iload_n 1, 1) := by decide +kernel
theorem dX4_build_25 : decode cX4_build 25 = .ok (.iload_n 2, 1) := by decide +kernel
theorem dX4_build_26 : decode cX4_build 26 = .ok (.if_icmp .eq 14, 3) := by decide +kernel
theorem dX4_build_29 : decode cX4_build 29 = .ok (.iload_n 3, 1) := by decide +kernel
theorem dX4_build_30 : decode cX4_build 30 = .ok (.iconst 1, 1) := by decide +kernel
theorem dX4_build_31 : decode cX4_build 31 = .ok (.if_icmp .lt 9, 3) := by decide +kernel
theorem dX4_build_34 : decode cX4_build 34 = .ok (.iload_n 3, 1) := by decide +kernel
theorem dX4_build_35 : decode cX4_build 35 = .ok (.bipush 99, 2) := by decide +kernel
theorem dX4_build_37 : decode cX4_build 37 = .ok (.if_icmp .le 6, 3) := by decide +kernel
theorem dX4_build_40 : decode cX4_build 40 = .ok (.bipush (-2), 2) := by decide +kernel
theorem dX4_build_42 : decode cX4_build 42 = .ok (.ireturn, 1) := by decide +kernel
theorem dX4_build_43 : decode cX4_build 43 = .ok (.aload_n 0, 1) := by decide +kernel
theorem dX4_build_44 : decode cX4_build 44 = .ok (.getfield 10, 3) := by decide +kernel
theorem dX4_build_47 : decode cX4_build 47 = .ok (.getfield 64, 3) := by decide +kernel
theorem dX4_build_50 : decode cX4_build 50 = .ok (.bipush 30, 2) := by decide +kernel
theorem dX4_build_52 : decode cX4_build 52 = .ok (.if_icmp .lt 6, 3) := by decide +kernel
theorem dX4_build_55 : decode cX4_build 55 = .ok (.bipush (-4), 2) := by decide +kernel
theorem dX4_build_57 : decode cX4_build 57 = .ok (.ireturn, 1) := by decide +kernel
theorem dX4_build_58 : decode cX4_build 58 = .ok (.aload_n 0, 1) := by decide +kernel
theorem dX4_build_59 : decode cX4_build 59 = .ok (.getfield 35, 3) := by decide +kernel
theorem dX4_build_62 : decode cX4_build 62 = .ok (.aload_n 0, 1) := by decide +kernel
theorem dX4_build_63 : decode cX4_build 63 = .ok (.getfield 10, 3) := by decide +kernel
theorem dX4_build_66 : decode cX4_build 66 = .ok (.invokevirtual 55, 3) := by decide +kernel
theorem dX4_build_69 : decode cX4_build 69 = .ok (.aload_n 0, 1) := by decide +kernel
theorem dX4_build_70 : decode cX4_build 70 = .ok (.getfield 10, 3) := by decide +kernel
theorem dX4_build_73 : decode cX4_build 73 = .ok (.iload_n 1, 1) := by decide +kernel
theorem dX4_build_74 : decode cX4_build 74 = .ok (.iload_n 2, 1) := by decide +kernel
theorem dX4_build_75 : decode cX4_build 75 = .ok (.iload_n 3, 1) := by decide +kernel
theorem dX4_build_76 : decode cX4_build 76 = .ok (.invokevirtual 67, 3) := by decide +kernel
theorem dX4_build_79 : decode cX4_build 79 = .ok (.aload_n 0, 1) := by decide +kernel
theorem dX4_build_80 : decode cX4_build 80 = .ok (.getfield 21, 3) := by decide +kernel
theorem dX4_build_83 : decode cX4_build 83 = .ok (.invokevirtual 58, 3) := by decide +kernel
theorem dX4_build_86 : decode cX4_build 86 = .ok (.aload_n 0, 1) := by decide +kernel
theorem dX4_build_87 : decode cX4_build 87 = .ok (.getfield 21, 3) := by decide +kernel
theorem dX4_build_90 : decode cX4_build 90 = .ok (.getfield 71, 3) := by decide +kernel
theorem dX4_build_93 : decode cX4_build 93 = .ok (.ireturn, 1) := by decide +kernel
theorem dX4_lose_0 : decode cX4_lose 0 = .ok (.aload_n 0, 1) := by decide +kernel
theorem dX4_lose_1 : decode cX4_lose 1 = .ok (.getfield 10, 3) := by decide +kernel
theorem dX4_lose_4 : decode cX4_lose 4 = .ok (.iload_n 1, 1) := by decide +kernel
theorem dX4_lose_5 : decode cX4_lose 5 = .ok (.invokevirtual 74, 3) := by decide +kernel
theorem dX4_lose_8 : decode cX4_lose 8 = .ok (.ifCond .ne 5, 3) := by decide +kernel
theorem dX4_lose_11 : decode cX4_lose 11 = .ok (.iconst (-1), 1) := by decide +kernel
theorem dX4_lose_12 : decode cX4_lose 12 = .ok (.ireturn, 1) := by decide +kernel
theorem dX4_lose_13 : decode cX4_lose 13 = .ok (.aload_n 0, 1) := by decide +kernel
theorem dX4_lose_14 : decode cX4_lose 14 = .ok (.getfield 35, 3) := by decide +kernel
theorem dX4_lose_17 : decode cX4_lose 17 = .ok (.aload_n 0, 1) := by decide +kernel
theorem dX4_lose_18 : decode cX4_lose 18 = .ok (.getfield 10, 3) := by decide +kernel
theorem dX4_lose_21 : decode cX4_lose 21 = .ok (.invokevirtual 55, 3) := by decide +kernel
theorem dX4_lose_24 : decode cX4_lose 24 = .ok (.aload_n 0, 1) := by decide +kernel
theorem dX4_lose_25 : decode cX4_lose 25 = .ok (.getfield 10, 3) := by decide +kernel
theorem dX4_lose_28 : decode cX4_lose 28 = .ok (.iload_n 1, 1) := by decide +kernel
theorem dX4_lose_29 : decode cX4_lose 29 = .ok (.invokevirtual 77, 3) := by decide +kernel
theorem dX4_lose_32 : decode cX4_lose 32 = .ok (.aload_n 0, 1) := by decide +kernel
theorem dX4_lose_33 : decode cX4_lose 33 = .ok (.getfield 21, 3) := by decide +kernel
theorem dX4_lose_36 : decode cX4_lose 36 = .ok (.invokevirtual 58, 3) := by decide +kernel
theorem dX4_lose_39 : decode cX4_lose 39 = .ok (.aload_n 0, 1) := by decide +kernel
theorem dX4_lose_40 : decode cX4_lose 40 = .ok (.getfield 21, 3) := by decide +kernel
theorem dX4_lose_43 : decode cX4_lose 43 = .ok (.getfield 71, 3) := by decide +kernel
theorem dX4_lose_46 : decode cX4_lose 46 = .ok (.ireturn, 1) := by decide +kernel
theorem dX4_read_0 : decode cX4_read 0 = .ok (.aload_n 0, 1) := by decide +kernel
theorem dX4_read_1 : decode cX4_read 1 = .ok (.getfield 28, 3) := by decide +kernel
theorem dX4_read_4 : decode cX4_read 4 = .ok (.invokevirtual 81, 3) := by decide +kernel
theorem dX4_read_7 : decode cX4_read 7 = .ok (.bipush (-6), 2) := by decide +kernel
theorem dX4_read_9 : decode cX4_read 9 = .ok (.if_icmp .eq 6, 3) := by decide +kernel
theorem dX4_read_12 : decode cX4_read 12 = .ok (.bipush (-3), 2) := by decide +kernel
theorem dX4_read_14 : decode cX4_read 14 = .ok (.ireturn, 1) := by decide +kernel
theorem dX4_read_15 : decode cX4_read 15 = .ok (.aload_n 0, 1) := by decide +kernel
theorem dX4_read_16 : decode cX4_read 16 = .ok (.invokevirtual 85, 3) := by decide +kernel
theorem dX4_read_19 : decode cX4_read 19 = .ok (.istore_n 1, 1) := by decide +kernel
theorem dX4_read_20 : decode cX4_read 20 = .ok (.iload_n 1, 1) := by decide +kernel
theorem dX4_read_21 : decode cX4_read 21 = .ok (.ifCond .eq 5, 3) := by decide +kernel
theorem dX4_read_24 : decode cX4_read 24 = .ok (.iload_n 1, 1) := by decide +kernel
theorem dX4_read_25 : decode cX4_read 25 = .ok (.ireturn, 1) := by decide +kernel
theorem dX4_read_26 : decode cX4_read 26 = .ok (.aload_n 0, 1) := by decide +kernel
theorem dX4_read_27 : decode cX4_read 27 = .ok (.getfield 35, 3) := by decide +kernel
theorem dX4_read_30 : decode cX4_read 30 = .ok (.aload_n 0, 1) := by decide +kernel
theorem dX4_read_31 : decode cX4_read 31 = .ok (.getfield 10, 3) := by decide +kernel
theorem dX4_read_34 : decode cX4_read 34 = .ok (.invokevirtual 55, 3) := by decide +kernel
theorem dX4_read_37 : decode cX4_read 37 = .ok (.iconst 0, 1) := by decide +kernel
theorem dX4_read_38 : decode cX4_read 38 = .ok (.istore_n 2, 1) := by decide +kernel
theorem dX4_read_39 : decode cX4_read 39 = .ok (.iload_n 2, 1) := by decide +kernel
theorem dX4_read_40 : decode cX4_read 40 = .ok (.aload_n 0, 1) := by decide +kernel
theorem dX4_read_41 : decode cX4_read 41 = .ok (.getfield 28, 3) := by decide +kernel
theorem dX4_read_44 : decode cX4_read 44 = .ok (.invokevirtual 88, 3) := by decide +kernel
theorem dX4_read_47 : decode cX4_read 47 = .ok (.if_icmp .ge 40, 3) := by decide +kernel
theorem dX4_read_50 : decode cX4_read 50 = .ok (.aload_n 0, 1) := by decide +kernel
theorem dX4_read_51 : decode cX4_read 51 = .ok (.getfield 10, 3) := by decide +kernel
theorem dX4_read_54 : decode cX4_read 54 = .ok (.aload_n 0, 1) := by decide +kernel
theorem dX4_read_55 : decode cX4_read 55 = .ok (.getfield 28, 3) := by decide +kernel
theorem dX4_read_58 : decode cX4_read 58 = .ok (.iload_n 2, 1) := by decide +kernel
theorem dX4_read_59 : decode cX4_read 59 = .ok (.invokevirtual 91, 3) := by decide +kernel
theorem dX4_read_62 : decode cX4_read 62 = .ok (.aload_n 0, 1) := by decide +kernel
theorem dX4_read_63 : decode cX4_read 63 = .ok (.getfield 28, 3) := by decide +kernel
theorem dX4_read_66 : decode cX4_read 66 = .ok (.iload_n 2, 1) := by decide +kernel
theorem dX4_read_67 : decode cX4_read 67 = .ok (.invokevirtual 95, 3) := by decide +kernel
theorem dX4_read_70 : decode cX4_read 70 = .ok (.aload_n 0, 1) := by decide +kernel
theorem dX4_read_71 : decode cX4_read 71 = .ok (.getfield 28, 3) := by decide +kernel
theorem dX4_read_74 : decode cX4_read 74 = .ok (.iload_n 2, 1) := by decide +kernel
theorem dX4_read_75 : decode cX4_read 75 = .ok (.invokevirtual 98, 3) := by decide +kernel
theorem dX4_read_78 : decode cX4_read 78 = .ok (.invokevirtual 67, 3) := by decide +kernel
theorem dX4_read_81 : decode cX4_read 81 = .ok (.iinc 2 1, 3) := by decide +kernel
theorem dX4_read_84 : decode cX4_read 84 = .ok (.goto (-45), 3) := by decide +kernel
theorem dX4_read_87 : decode cX4_read 87 = .ok (.aload_n 0, 1) := by decide +kernel
theorem dX4_read_88 : decode cX4_read 88 = .ok (.getfield 28, 3) := by decide +kernel
theorem dX4_read_91 : decode cX4_read 91 = .ok (.iconst 0, 1) := by decide +kernel
theorem dX4_read_92 : decode cX4_read 92 = .ok (.putfield 101, 3) := by decide +kernel
theorem dX4_read_95 : decode cX4_read 95 = .ok (.aload_n 0, 1) := by decide +kernel
theorem dX4_read_96 : decode cX4_read 96 = .ok (.getfield 21, 3) := by decide +kernel
theorem dX4_read_99 : decode cX4_read 99 = .ok (.invokevirtual 58, 3) := by decide +kernel
theorem dX4_read_102 : decode cX4_read 102 = .ok (.aload_n 0, 1) := by decide +kernel
theorem dX4_read_103 : decode cX4_read 103 = .ok (.getfield 10, 3) := by decide +kernel
theorem dX4_read_106 : decode cX4_read 106 = .ok (.getfield 64, 3) := by decide +kernel
theorem dX4_read_109 : decode cX4_read 109 = .ok (.ireturn, 1) := by decide +kernel
theorem dX4_errorOfParsedRoads_0 : decode cX4_errorOfParsedRoads 0 = .ok (.aload_n 0, 1) := by decide +kernel
theorem dX4_errorOfParsedRoads_1 : decode cX4_errorOfParsedRoads 1 = .ok (.getfield 28, 3) := by decide +kernel
theorem dX4_errorOfParsedRoads_4 : decode cX4_errorOfParsedRoads 4 = .ok (.invokevirtual 88, 3) := by decide +kernel
theorem dX4_errorOfParsedRoads_7 : decode cX4_errorOfParsedRoads 7 = .ok (.istore_n 1, 1) := by decide +kernel
theorem dX4_errorOfParsedRoads_8 : decode cX4_errorOfParsedRoads 8 = .ok (.iconst 0, 1) := by decide +kernel
theorem dX4_errorOfParsedRoads_9 : decode cX4_errorOfParsedRoads 9 = .ok (.istore_n 2, 1) := by decide +kernel
theorem dX4_errorOfParsedRoads_10 : decode cX4_errorOfParsedRoads 10 = .ok (.iload_n 2, 1) := by decide +kernel
theorem dX4_errorOfParsedRoads_11 : decode cX4_errorOfParsedRoads 11 = .ok (.iload_n 1, 1) := by decide +kernel
theorem dX4_errorOfParsedRoads_12 : decode cX4_errorOfParsedRoads 12 = .ok (.if_icmp .ge 47, 3) := by decide +kernel
theorem dX4_errorOfParsedRoads_15 : decode cX4_errorOfParsedRoads 15 = .ok (.aload_n 0, 1) := by decide +kernel
theorem dX4_errorOfParsedRoads_16 : decode cX4_errorOfParsedRoads 16 = .ok (.getfield 10, 3) := by decide +kernel
theorem dX4_errorOfParsedRoads_19 : decode cX4_errorOfParsedRoads 19 = .ok (.aload_n 0, 1) := by decide +kernel
theorem dX4_errorOfParsedRoads_20 : decode cX4_errorOfParsedRoads 20 = .ok (.getfield 28, 3) := by decide +kernel
theorem dX4_errorOfParsedRoads_23 : decode cX4_errorOfParsedRoads 23 = .ok (.iload_n 2, 1) := by decide +kernel
theorem dX4_errorOfParsedRoads_24 : decode cX4_errorOfParsedRoads 24 = .ok (.invokevirtual 91, 3) := by decide +kernel
theorem dX4_errorOfParsedRoads_27 : decode cX4_errorOfParsedRoads 27 = .ok (.invokevirtual 61, 3) := by decide +kernel
theorem dX4_errorOfParsedRoads_30 : decode cX4_errorOfParsedRoads 30 = .ok (.ifCond .eq 21, 3) := by decide +kernel
theorem dX4_errorOfParsedRoads_33 : decode cX4_errorOfParsedRoads 33 = .ok (.aload_n 0, 1) := by decide +kernel
theorem dX4_errorOfParsedRoads_34 : decode cX4_errorOfParsedRoads 34 = .ok (.getfield 10, 3) := by decide +kernel
theorem dX4_errorOfParsedRoads_37 : decode cX4_errorOfParsedRoads 37 = .ok (.aload_n 0, 1) := by decide +kernel
theorem dX4_errorOfParsedRoads_38 : decode cX4_errorOfParsedRoads 38 = .ok (.getfield 28, 3) := by decide +kernel
theorem dX4_errorOfParsedRoads_41 : decode cX4_errorOfParsedRoads 41 = .ok (.iload_n 2, 1) := by decide +kernel
theorem dX4_errorOfParsedRoads_42 : decode cX4_errorOfParsedRoads 42 = .ok (.invokevirtual 95, 3) := by decide +kernel
theorem dX4_errorOfParsedRoads_45 : decode cX4_errorOfParsedRoads 45 = .ok (.invokevirtual 61, 3) := by decide +kernel
theorem dX4_errorOfParsedRoads_48 : decode cX4_errorOfParsedRoads 48 = .ok (.ifCond .ne 5, 3) := by decide +kernel
theorem dX4_errorOfParsedRoads_51 : decode cX4_errorOfParsedRoads 51 = .ok (.iconst (-1), 1) := by decide +kernel
theorem dX4_errorOfParsedRoads_52 : decode cX4_errorOfParsedRoads 52 = .ok (.ireturn, 1) := by decide +kernel
theorem dX4_errorOfParsedRoads_53 : decode cX4_errorOfParsedRoads 53 = .ok (.iinc 2 1, 3) := by decide +kernel
theorem dX4_errorOfParsedRoads_56 : decode cX4_errorOfParsedRoads 56 = .ok (.goto (-46), 3) := by decide +kernel
theorem dX4_errorOfParsedRoads_59 : decode cX4_errorOfParsedRoads 59 = .ok (.iconst 0, 1) := by decide +kernel
theorem dX4_errorOfParsedRoads_60 : decode cX4_errorOfParsedRoads 60 = .ok (.istore_n 2, 1) := by decide +kernel
theorem dX4_errorOfParsedRoads_61 : decode cX4_errorOfParsedRoads 61 = .ok (.iload_n 2, 1) := by decide +kernel
theorem dX4_errorOfParsedRoads_62 : decode cX4_errorOfParsedRoads 62 = .ok (.iload_n 1, 1) := by decide +kernel
theorem dX4_errorOfParsedRoads_63 : decode cX4_errorOfParsedRoads 63 = .ok (.if_icmp .ge 31, 3) := by decide +kernel
theorem dX4_errorOfParsedRoads_66 : decode cX4_errorOfParsedRoads 66 = .ok (.aload_n 0, 1) := by decide +kernel
theorem dX4_errorOfParsedRoads_67 : decode cX4_errorOfParsedRoads 67 = .ok (.getfield 28, 3) := by decide +kernel
theorem dX4_errorOfParsedRoads_70 : decode cX4_errorOfParsedRoads 70 = .ok (.iload_n 2, 1) := by decide +kernel
theorem dX4_errorOfParsedRoads_71 : decode cX4_errorOfParsedRoads 71 = .ok (.invokevirtual 91, 3) := by decide +kernel
theorem dX4_errorOfParsedRoads_74 : decode cX4_errorOfParsedRoads 74 = .ok (.aload_n 0, 1) := by decide +kernel
theorem dX4_errorOfParsedRoads_75 : decode cX4_errorOfParsedRoads 75 = .ok (.getfield 28, 3) := by decide +kernel
theorem dX4_errorOfParsedRoads_78 : decode cX4_errorOfParsedRoads 78 = .ok (.iload_n 2, 1) := by decide +kernel
theorem dX4_errorOfParsedRoads_79 : decode cX4_errorOfParsedRoads 79 = .ok (.invokevirtual 95, 3) := by decide +kernel
theorem dX4_errorOfParsedRoads_82 : decode cX4_errorOfParsedRoads 82 = .ok (.if_icmp .ne 6, 3) := by decide +kernel
theorem dX4_errorOfParsedRoads_85 : decode cX4_errorOfParsedRoads 85 = .ok (.bipush (-2), 2) := by decide +kernel
theorem dX4_errorOfParsedRoads_87 : decode cX4_errorOfParsedRoads 87 = .ok (.ireturn, 1) := by decide +kernel
theorem dX4_errorOfParsedRoads_88 : decode cX4_errorOfParsedRoads 88 = .ok (.iinc 2 1, 3) := by decide +kernel
theorem dX4_errorOfParsedRoads_91 : decode cX4_errorOfParsedRoads 91 = .ok (.goto (-30), 3) := by decide +kernel
theorem dX4_errorOfParsedRoads_94 : decode cX4_errorOfParsedRoads 94 = .ok (.aload_n 0, 1) := by decide +kernel
theorem dX4_errorOfParsedRoads_95 : decode cX4_errorOfParsedRoads 95 = .ok (.getfield 10, 3) := by decide +kernel
theorem dX4_errorOfParsedRoads_98 : decode cX4_errorOfParsedRoads 98 = .ok (.getfield 64, 3) := by decide +kernel
theorem dX4_errorOfParsedRoads_101 : decode cX4_errorOfParsedRoads 101 = .ok (.iload_n 1, 1) := by decide +kernel
theorem dX4_errorOfParsedRoads_102 : decode cX4_errorOfParsedRoads 102 = .ok (.iadd, 1) := by decide +kernel
theorem dX4_errorOfParsedRoads_103 : decode cX4_errorOfParsedRoads 103 = .ok (.bipush 30, 2) := by decide +kernel
theorem dX4_errorOfParsedRoads_105 : decode cX4_errorOfParsedRoads 105 = .ok (.if_icmp .le 8, 3) := by decide +kernel
theorem dX4_errorOfParsedRoads_108 : decode cX4_errorOfParsedRoads 108 = .ok (.bipush (-4), 2) := by decide +kernel
theorem dX4_errorOfParsedRoads_110 : decode cX4_errorOfParsedRoads 110 = .ok (.goto 4, 3) := by decide +kernel
theorem dX4_errorOfParsedRoads_113 : decode cX4_errorOfParsedRoads 113 = .ok (.iconst 0, 1) := by decide +kernel
theorem dX4_errorOfParsedRoads_114 : decode cX4_errorOfParsedRoads 114 = .ok (.ireturn, 1) := by decide +kernel
theorem dX4_road_0 : decode cX4_road 0 = .ok (.aload_n 0, 1) := by decide +kernel
theorem dX4_road_1 : decode cX4_road 1 = .ok (.getfield 10, 3) := by decide +kernel
theorem dX4_road_4 : decode cX4_road 4 = .ok (.iload_n 1, 1) := by decide +kernel
theorem dX4_road_5 : decode cX4_road 5 = .ok (.invokevirtual 74, 3) := by decide +kernel
theorem dX4_road_8 : decode cX4_road 8 = .ok (.ifCond .ne 5, 3) := by decide +kernel
theorem dX4_road_11 : decode cX4_road 11 = .ok (.iconst (-1), 1) := by decide +kernel
theorem dX4_road_12 : decode cX4_road 12 = .ok (.ireturn, 1) := by decide +kernel
theorem dX4_road_13 : decode cX4_road 13 = .ok (.iload_n 2, 1) := by decide +kernel
theorem dX4_road_14 : decode cX4_road 14 = .ok (.tableswitch 106 0 5 #[38, 48, 58, 68, 88, 97], 38) := by decide +kernel
theorem dX4_road_52 : decode cX4_road 52 = .ok (.aload_n 0, 1) := by decide +kernel
theorem dX4_road_53 : decode cX4_road 53 = .ok (.getfield 10, 3) := by decide +kernel
theorem dX4_road_56 : decode cX4_road 56 = .ok (.getfield 104, 3) := by decide +kernel
theorem dX4_road_59 : decode cX4_road 59 = .ok (.iload_n 1, 1) := by decide +kernel
theorem dX4_road_60 : decode cX4_road 60 = .ok (.iaload, 1) := by decide +kernel
theorem dX4_road_61 : decode cX4_road 61 = .ok (.ireturn, 1) := by decide +kernel
theorem dX4_road_62 : decode cX4_road 62 = .ok (.aload_n 0, 1) := by decide +kernel
theorem dX4_road_63 : decode cX4_road 63 = .ok (.getfield 10, 3) := by decide +kernel
theorem dX4_road_66 : decode cX4_road 66 = .ok (.getfield 108, 3) := by decide +kernel
theorem dX4_road_69 : decode cX4_road 69 = .ok (.iload_n 1, 1) := by decide +kernel
theorem dX4_road_70 : decode cX4_road 70 = .ok (.iaload, 1) := by decide +kernel
theorem dX4_road_71 : decode cX4_road 71 = .ok (.ireturn, 1) := by decide +kernel
theorem dX4_road_72 : decode cX4_road 72 = .ok (.aload_n 0, 1) := by decide +kernel
theorem dX4_road_73 : decode cX4_road 73 = .ok (.getfield 10, 3) := by decide +kernel
theorem dX4_road_76 : decode cX4_road 76 = .ok (.getfield 111, 3) := by decide +kernel
theorem dX4_road_79 : decode cX4_road 79 = .ok (.iload_n 1, 1) := by decide +kernel
theorem dX4_road_80 : decode cX4_road 80 = .ok (.iaload, 1) := by decide +kernel
theorem dX4_road_81 : decode cX4_road 81 = .ok (.ireturn, 1) := by decide +kernel
theorem dX4_road_82 : decode cX4_road 82 = .ok (.aload_n 0, 1) := by decide +kernel
theorem dX4_road_83 : decode cX4_road 83 = .ok (.getfield 21, 3) := by decide +kernel
theorem dX4_road_86 : decode cX4_road 86 = .ok (.getfield 114, 3) := by decide +kernel
theorem dX4_road_89 : decode cX4_road 89 = .ok (.iload_n 1, 1) := by decide +kernel
theorem dX4_road_90 : decode cX4_road 90 = .ok (.invokestatic 117, 3) := by decide +kernel
theorem dX4_road_93 : decode cX4_road 93 = .ok (.ifCond .eq 7, 3) := by decide +kernel
theorem dX4_road_96 : decode cX4_road 96 = .ok (.iconst 1, 1) := by decide +kernel
theorem dX4_road_97 : decode cX4_road 97 = .ok (.goto 4, 3) := by decide +kernel
theorem dX4_road_100 : decode cX4_road 100 = .ok (.iconst 0, 1) := by decide +kernel
theorem dX4_road_101 : decode cX4_road 101 = .ok (.ireturn, 1) := by decide +kernel
theorem dX4_road_102 : decode cX4_road 102 = .ok (.aload_n 0, 1) := by decide +kernel
theorem dX4_road_103 : decode cX4_road 103 = .ok (.getfield 21, 3) := by decide +kernel
theorem dX4_road_106 : decode cX4_road 106 = .ok (.iload_n 1, 1) := by decide +kernel
theorem dX4_road_107 : decode cX4_road 107 = .ok (.invokevirtual 121, 3) := by decide +kernel
theorem dX4_road_110 : decode cX4_road 110 = .ok (.ireturn, 1) := by decide +kernel
theorem dX4_road_111 : decode cX4_road 111 = .ok (.aload_n 0, 1) := by decide +kernel
theorem dX4_road_112 : decode cX4_road 112 = .ok (.getfield 21, 3) := by decide +kernel
theorem dX4_road_115 : decode cX4_road 115 = .ok (.iload_n 1, 1) := by decide +kernel
theorem dX4_road_116 : decode cX4_road 116 = .ok (.invokevirtual 124, 3) := by decide +kernel
theorem dX4_road_119 : decode cX4_road 119 = .ok (.ireturn, 1) := by decide +kernel
theorem dX4_road_120 : decode cX4_road 120 = .ok (.bipush (-2), 2) := by decide +kernel
theorem dX4_road_122 : decode cX4_road 122 = .ok (.ireturn, 1) := by decide +kernel
theorem dX4_square_0 : decode cX4_square 0 = .ok (.aload_n 0, 1) := by decide +kernel
theorem dX4_square_1 : decode cX4_square 1 = .ok (.getfield 10, 3) := by decide +kernel
theorem dX4_square_4 : decode cX4_square 4 = .ok (.iload_n 1, 1) := by decide +kernel
theorem dX4_square_5 : decode cX4_square 5 = .ok (.invokevirtual 61, 3) := by decide +kernel
theorem dX4_square_8 : decode cX4_square 8 = .ok (.ifCond .ne 5, 3) := by decide +kernel
theorem dX4_square_11 : decode cX4_square 11 = .ok (.iconst (-1), 1) := by decide +kernel
theorem dX4_square_12 : decode cX4_square 12 = .ok (.ireturn, 1) := by decide +kernel
theorem dX4_square_13 : decode cX4_square 13 = .ok (.iload_n 2, 1) := by decide +kernel
theorem dX4_square_14 : decode cX4_square 14 = .ok (.tableswitch 92 0 4 #[34, 46, 63, 73, 83], 34) := by decide +kernel
theorem dX4_square_48 : decode cX4_square 48 = .ok (.aload_n 0, 1) := by decide +kernel
theorem dX4_square_49 : decode cX4_square 49 = .ok (.getfield 10, 3) := by decide +kernel
theorem dX4_square_52 : decode cX4_square 52 = .ok (.iload_n 1, 1) := by decide +kernel
theorem dX4_square_53 : decode cX4_square 53 = .ok (.invokevirtual 127, 3) := by decide +kernel
theorem dX4_square_56 : decode cX4_square 56 = .ok (.invokestatic 130, 3) := by decide +kernel
theorem dX4_square_59 : decode cX4_square 59 = .ok (.ireturn, 1) := by decide +kernel
theorem dX4_square_60 : decode cX4_square 60 = .ok (.aload_n 0, 1) := by decide +kernel
theorem dX4_square_61 : decode cX4_square 61 = .ok (.getfield 21, 3) := by decide +kernel
theorem dX4_square_64 : decode cX4_square 64 = .ok (.iload_n 1, 1) := by decide +kernel
theorem dX4_square_65 : decode cX4_square 65 = .ok (.invokevirtual 135, 3) := by decide +kernel
theorem dX4_square_68 : decode cX4_square 68 = .ok (.ifCond .le 7, 3) := by decide +kernel
theorem dX4_square_71 : decode cX4_square 71 = .ok (.iconst 1, 1) := by decide +kernel
theorem dX4_square_72 : decode cX4_square 72 = .ok (.goto 4, 3) := by decide +kernel
theorem dX4_square_75 : decode cX4_square 75 = .ok (.iconst 0, 1) := by decide +kernel
theorem dX4_square_76 : decode cX4_square 76 = .ok (.ireturn, 1) := by decide +kernel
theorem dX4_square_77 : decode cX4_square 77 = .ok (.aload_n 0, 1) := by decide +kernel
theorem dX4_square_78 : decode cX4_square 78 = .ok (.getfield 21, 3) := by decide +kernel
theorem dX4_square_81 : decode cX4_square 81 = .ok (.getfield 138, 3) := by decide +kernel
theorem dX4_square_84 : decode cX4_square 84 = .ok (.iload_n 1, 1) := by decide +kernel
theorem dX4_square_85 : decode cX4_square 85 = .ok (.iaload, 1) := by decide +kernel
theorem dX4_square_86 : decode cX4_square 86 = .ok (.ireturn, 1) := by decide +kernel
theorem dX4_square_87 : decode cX4_square 87 = .ok (.aload_n 0, 1) := by decide +kernel
theorem dX4_square_88 : decode cX4_square 88 = .ok (.getfield 21, 3) := by decide +kernel
theorem dX4_square_91 : decode cX4_square 91 = .ok (.getfield 141, 3) := by decide +kernel
theorem dX4_square_94 : decode cX4_square 94 = .ok (.iload_n 1, 1) := by decide +kernel
theorem dX4_square_95 : decode cX4_square 95 = .ok (.iaload, 1) := by decide +kernel
theorem dX4_square_96 : decode cX4_square 96 = .ok (.ireturn, 1) := by decide +kernel
theorem dX4_square_97 : decode cX4_square 97 = .ok (.aload_n 0, 1) := by decide +kernel
theorem dX4_square_98 : decode cX4_square 98 = .ok (.getfield 21, 3) := by decide +kernel
theorem dX4_square_101 : decode cX4_square 101 = .ok (.iload_n 1, 1) := by decide +kernel
theorem dX4_square_102 : decode cX4_square 102 = .ok (.invokevirtual 135, 3) := by decide +kernel
theorem dX4_square_105 : decode cX4_square 105 = .ok (.ireturn, 1) := by decide +kernel
theorem dX4_square_106 : decode cX4_square 106 = .ok (.bipush (-2), 2) := by decide +kernel
theorem dX4_square_108 : decode cX4_square 108 = .ok (.ireturn, 1) := by decide +kernel
theorem dX4_district_0 : decode cX4_district 0 = .ok (.iload_n 1, 1) := by decide +kernel
theorem dX4_district_1 : decode cX4_district 1 = .ok (.ifCond .lt 14, 3) := by decide +kernel
theorem dX4_district_4 : decode cX4_district 4 = .ok (.iload_n 1, 1) := by decide +kernel
theorem dX4_district_5 : decode cX4_district 5 = .ok (.aload_n 0, 1) := by decide +kernel
theorem dX4_district_6 : decode cX4_district 6 = .ok (.getfield 21, 3) := by decide +kernel
theorem dX4_district_9 : decode cX4_district 9 = .ok (.getfield 144, 3) := by decide +kernel
theorem dX4_district_12 : decode cX4_district 12 = .ok (.if_icmp .lt 5, 3) := by decide +kernel
theorem dX4_district_15 : decode cX4_district 15 = .ok (.iconst (-1), 1) := by decide +kernel
theorem dX4_district_16 : decode cX4_district 16 = .ok (.ireturn, 1) := by decide +kernel
theorem dX4_district_17 : decode cX4_district 17 = .ok (.aload_n 0, 1) := by decide +kernel
theorem dX4_district_18 : decode cX4_district 18 = .ok (.getfield 21, 3) := by decide +kernel
theorem dX4_district_21 : decode cX4_district 21 = .ok (.getfield 147, 3) := by decide +kernel
theorem dX4_district_24 : decode cX4_district 24 = .ok (.iload_n 1, 1) := by decide +kernel
theorem dX4_district_25 : decode cX4_district 25 = .ok (.iaload, 1) := by decide +kernel
theorem dX4_district_26 : decode cX4_district 26 = .ok (.istore_n 3, 1) := by decide +kernel
theorem dX4_district_27 : decode cX4_district 27 = .ok (.iload_n 2, 1) := by decide +kernel
theorem dX4_district_28 : decode cX4_district 28 = .ok (.tableswitch 78 0 3 #[32, 34, 50, 59], 32) := by decide +kernel
theorem dX4_district_60 : decode cX4_district 60 = .ok (.iload_n 3, 1) := by decide +kernel
theorem dX4_district_61 : decode cX4_district 61 = .ok (.ireturn, 1) := by decide +kernel
theorem dX4_district_62 : decode cX4_district 62 = .ok (.aload_n 0, 1) := by decide +kernel
theorem dX4_district_63 : decode cX4_district 63 = .ok (.getfield 10, 3) := by decide +kernel
theorem dX4_district_66 : decode cX4_district 66 = .ok (.aload_n 0, 1) := by decide +kernel
theorem dX4_district_67 : decode cX4_district 67 = .ok (.getfield 10, 3) := by decide +kernel
theorem dX4_district_70 : decode cX4_district 70 = .ok (.iload_n 3, 1) := by decide +kernel
theorem dX4_district_71 : decode cX4_district 71 = .ok (.invokevirtual 150, 3) := by decide +kernel
theorem dX4_district_74 : decode cX4_district 74 = .ok (.invokevirtual 153, 3) := by decide +kernel
theorem dX4_district_77 : decode cX4_district 77 = .ok (.ireturn, 1) := by decide +kernel
theorem dX4_district_78 : decode cX4_district 78 = .ok (.aload_n 0, 1) := by decide +kernel
theorem dX4_district_79 : decode cX4_district 79 = .ok (.getfield 21, 3) := by decide +kernel
theorem dX4_district_82 : decode cX4_district 82 = .ok (.iload_n 3, 1) := by decide +kernel
theorem dX4_district_83 : decode cX4_district 83 = .ok (.invokevirtual 156, 3) := by decide +kernel
theorem dX4_district_86 : decode cX4_district 86 = .ok (.ireturn, 1) := by decide +kernel
theorem dX4_district_87 : decode cX4_district 87 = .ok (.aload_n 0, 1) := by decide +kernel
theorem dX4_district_88 : decode cX4_district 88 = .ok (.getfield 10, 3) := by decide +kernel
theorem dX4_district_91 : decode cX4_district 91 = .ok (.iload_n 3, 1) := by decide +kernel
theorem dX4_district_92 : decode cX4_district 92 = .ok (.invokevirtual 150, 3) := by decide +kernel
theorem dX4_district_95 : decode cX4_district 95 = .ok (.invokestatic 130, 3) := by decide +kernel
theorem dX4_district_98 : decode cX4_district 98 = .ok (.iload_n 3, 1) := by decide +kernel
theorem dX4_district_99 : decode cX4_district 99 = .ok (.invokestatic 130, 3) := by decide +kernel
theorem dX4_district_102 : decode cX4_district 102 = .ok (.isub, 1) := by decide +kernel
theorem dX4_district_103 : decode cX4_district 103 = .ok (.iconst 1, 1) := by decide +kernel
theorem dX4_district_104 : decode cX4_district 104 = .ok (.iadd, 1) := by decide +kernel
theorem dX4_district_105 : decode cX4_district 105 = .ok (.ireturn, 1) := by decide +kernel
theorem dX4_district_106 : decode cX4_district 106 = .ok (.bipush (-2), 2) := by decide +kernel
theorem dX4_district_108 : decode cX4_district 108 = .ok (.ireturn, 1) := by decide +kernel
theorem dX4_count_0 : decode cX4_count 0 = .ok (.iload_n 1, 1) := by decide +kernel
theorem dX4_count_1 : decode cX4_count 1 = .ok (.tableswitch 145 0 9 #[55, 63, 71, 79, 90, 98, 106, 114, 129, 137], 55) := by decide +kernel
theorem dX4_count_56 : decode cX4_count 56 = .ok (.aload_n 0, 1) := by decide +kernel
theorem dX4_count_57 : decode cX4_count 57 = .ok (.getfield 10, 3) := by decide +kernel
theorem dX4_count_60 : decode cX4_count 60 = .ok (.getfield 51, 3) := by decide +kernel
theorem dX4_count_63 : decode cX4_count 63 = .ok (.ireturn, 1) := by decide +kernel
theorem dX4_count_64 : decode cX4_count 64 = .ok (.aload_n 0, 1) := by decide +kernel
theorem dX4_count_65 : decode cX4_count 65 = .ok (.getfield 10, 3) := by decide +kernel
theorem dX4_count_68 : decode cX4_count 68 = .ok (.getfield 64, 3) := by decide +kernel
theorem dX4_count_71 : decode cX4_count 71 = .ok (.ireturn, 1) := by decide +kernel
theorem dX4_count_72 : decode cX4_count 72 = .ok (.aload_n 0, 1) := by decide +kernel
theorem dX4_count_73 : decode cX4_count 73 = .ok (.getfield 21, 3) := by decide +kernel
theorem dX4_count_76 : decode cX4_count 76 = .ok (.getfield 71, 3) := by decide +kernel
theorem dX4_count_79 : decode cX4_count 79 = .ok (.ireturn, 1) := by decide +kernel
theorem dX4_count_80 : decode cX4_count 80 = .ok (.aload_n 0, 1) := by decide +kernel
theorem dX4_count_81 : decode cX4_count 81 = .ok (.getfield 21, 3) := by decide +kernel
theorem dX4_count_84 : decode cX4_count 84 = .ok (.getfield 114, 3) := by decide +kernel
theorem dX4_count_87 : decode cX4_count 87 = .ok (.invokestatic 130, 3) := by decide +kernel
theorem dX4_count_90 : decode cX4_count 90 = .ok (.ireturn, 1) := by decide +kernel
theorem dX4_count_91 : decode cX4_count 91 = .ok (.aload_n 0, 1) := by decide +kernel
theorem dX4_count_92 : decode cX4_count 92 = .ok (.getfield 21, 3) := by decide +kernel
theorem dX4_count_95 : decode cX4_count 95 = .ok (.invokevirtual 159, 3) := by decide +kernel
theorem dX4_count_98 : decode cX4_count 98 = .ok (.ireturn, 1) := by decide +kernel
theorem dX4_count_99 : decode cX4_count 99 = .ok (.aload_n 0, 1) := by decide +kernel
theorem dX4_count_100 : decode cX4_count 100 = .ok (.getfield 21, 3) := by decide +kernel
theorem dX4_count_103 : decode cX4_count 103 = .ok (.getfield 144, 3) := by decide +kernel
theorem dX4_count_106 : decode cX4_count 106 = .ok (.ireturn, 1) := by decide +kernel
theorem dX4_count_107 : decode cX4_count 107 = .ok (.aload_n 0, 1) := by decide +kernel
theorem dX4_count_108 : decode cX4_count 108 = .ok (.getfield 21, 3) := by decide +kernel
theorem dX4_count_111 : decode cX4_count 111 = .ok (.invokevirtual 162, 3) := by decide +kernel
theorem dX4_count_114 : decode cX4_count 114 = .ok (.ireturn, 1) := by decide +kernel
theorem dX4_count_115 : decode cX4_count 115 = .ok (.aload_n 0, 1) := by decide +kernel
theorem dX4_count_116 : decode cX4_count 116 = .ok (.getfield 10, 3) := by decide +kernel
theorem dX4_count_119 : decode cX4_count 119 = .ok (.aload_n 0, 1) := by decide +kernel
theorem dX4_count_120 : decode cX4_count 120 = .ok (.getfield 10, 3) := by decide +kernel
theorem dX4_count_123 : decode cX4_count 123 = .ok (.invokevirtual 165, 3) := by decide +kernel
theorem dX4_count_126 : decode cX4_count 126 = .ok (.invokevirtual 153, 3) := by decide +kernel
theorem dX4_count_129 : decode cX4_count 129 = .ok (.ireturn, 1) := by decide +kernel
theorem dX4_count_130 : decode cX4_count 130 = .ok (.aload_n 0, 1) := by decide +kernel
theorem dX4_count_131 : decode cX4_count 131 = .ok (.getfield 28, 3) := by decide +kernel
theorem dX4_count_134 : decode cX4_count 134 = .ok (.getfield 101, 3) := by decide +kernel
theorem dX4_count_137 : decode cX4_count 137 = .ok (.ireturn, 1) := by decide +kernel
theorem dX4_count_138 : decode cX4_count 138 = .ok (.aload_n 0, 1) := by decide +kernel
theorem dX4_count_139 : decode cX4_count 139 = .ok (.getfield 35, 3) := by decide +kernel
theorem dX4_count_142 : decode cX4_count 142 = .ok (.getfield 168, 3) := by decide +kernel
theorem dX4_count_145 : decode cX4_count 145 = .ok (.ireturn, 1) := by decide +kernel
theorem dX4_count_146 : decode cX4_count 146 = .ok (.bipush (-2), 2) := by decide +kernel
theorem dX4_count_148 : decode cX4_count 148 = .ok (.ireturn, 1) := by decide +kernel
theorem dX4_way_0 : decode cX4_way 0 = .ok (.aload_n 0, 1) := by decide +kernel
theorem dX4_way_1 : decode cX4_way 1 = .ok (.getfield 10, 3) := by decide +kernel
theorem dX4_way_4 : decode cX4_way 4 = .ok (.iload_n 1, 1) := by decide +kernel
theorem dX4_way_5 : decode cX4_way 5 = .ok (.invokevirtual 61, 3) := by decide +kernel
theorem dX4_way_8 : decode cX4_way 8 = .ok (.ifCond .eq 14, 3) := by decide +kernel
theorem dX4_way_11 : decode cX4_way 11 = .ok (.aload_n 0, 1) := by decide +kernel
theorem dX4_way_12 : decode cX4_way 12 = .ok (.getfield 10, 3) := by decide +kernel
theorem dX4_way_15 : decode cX4_way 15 = .ok (.iload_n 2, 1) := by decide +kernel
theorem dX4_way_16 : decode cX4_way 16 = .ok (.invokevirtual 61, 3) := by decide +kernel
theorem dX4_way_19 : decode cX4_way 19 = .ok (.ifCond .ne 5, 3) := by decide +kernel
theorem dX4_way_22 : decode cX4_way 22 = .ok (.iconst (-1), 1) := by decide +kernel
theorem dX4_way_23 : decode cX4_way 23 = .ok (.ireturn, 1) := by decide +kernel
theorem dX4_way_24 : decode cX4_way 24 = .ok (.iload_n 3, 1) := by decide +kernel
theorem dX4_way_25 : decode cX4_way 25 = .ok (.ifCond .lt 8, 3) := by decide +kernel
theorem dX4_way_28 : decode cX4_way 28 = .ok (.iload_n 3, 1) := by decide +kernel
theorem dX4_way_29 : decode cX4_way 29 = .ok (.iconst 2, 1) := by decide +kernel
theorem dX4_way_30 : decode cX4_way 30 = .ok (.if_icmp .le 6, 3) := by decide +kernel
theorem dX4_way_33 : decode cX4_way 33 = .ok (.bipush (-2), 2) := by decide +kernel
theorem dX4_way_35 : decode cX4_way 35 = .ok (.ireturn, 1) := by decide +kernel
theorem dX4_way_36 : decode cX4_way 36 = .ok (.aload_n 0, 1) := by decide +kernel
theorem dX4_way_37 : decode cX4_way 37 = .ok (.getfield 21, 3) := by decide +kernel
theorem dX4_way_40 : decode cX4_way 40 = .ok (.iload_n 1, 1) := by decide +kernel
theorem dX4_way_41 : decode cX4_way 41 = .ok (.iload_n 2, 1) := by decide +kernel
theorem dX4_way_42 : decode cX4_way 42 = .ok (.invokevirtual 171, 3) := by decide +kernel
theorem dX4_way_45 : decode cX4_way 45 = .ok (.ifCond .ne 6, 3) := by decide +kernel
theorem dX4_way_48 : decode cX4_way 48 = .ok (.bipush (-6), 2) := by decide +kernel
theorem dX4_way_50 : decode cX4_way 50 = .ok (.ireturn, 1) := by decide +kernel
theorem dX4_way_51 : decode cX4_way 51 = .ok (.iload_n 3, 1) := by decide +kernel
theorem dX4_way_52 : decode cX4_way 52 = .ok (.ifCond .ne 13, 3) := by decide +kernel
theorem dX4_way_55 : decode cX4_way 55 = .ok (.aload_n 0, 1) := by decide +kernel
theorem dX4_way_56 : decode cX4_way 56 = .ok (.getfield 21, 3) := by decide +kernel
theorem dX4_way_59 : decode cX4_way 59 = .ok (.iload_n 1, 1) := by decide +kernel
theorem dX4_way_60 : decode cX4_way 60 = .ok (.iload_n 2, 1) := by decide +kernel
theorem dX4_way_61 : decode cX4_way 61 = .ok (.invokevirtual 174, 3) := by decide +kernel
theorem dX4_way_64 : decode cX4_way 64 = .ok (.ireturn, 1) := by decide +kernel
theorem dX4_way_65 : decode cX4_way 65 = .ok (.aload_n 0, 1) := by decide +kernel
theorem dX4_way_66 : decode cX4_way 66 = .ok (.getfield 21, 3) := by decide +kernel
theorem dX4_way_69 : decode cX4_way 69 = .ok (.iload_n 1, 1) := by decide +kernel
theorem dX4_way_70 : decode cX4_way 70 = .ok (.iload_n 2, 1) := by decide +kernel
theorem dX4_way_71 : decode cX4_way 71 = .ok (.invokevirtual 178, 3) := by decide +kernel
theorem dX4_way_74 : decode cX4_way 74 = .ok (.invokestatic 130, 3) := by decide +kernel
theorem dX4_way_77 : decode cX4_way 77 = .ok (.istore 4, 2) := by decide +kernel
theorem dX4_way_79 : decode cX4_way 79 = .ok (.iload_n 3, 1) := by decide +kernel
theorem dX4_way_80 : decode cX4_way 80 = .ok (.iconst 1, 1) := by decide +kernel
theorem dX4_way_81 : decode cX4_way 81 = .ok (.if_icmp .ne 8, 3) := by decide +kernel
theorem dX4_way_84 : decode cX4_way 84 = .ok (.iload 4, 2) := by decide +kernel
theorem dX4_way_86 : decode cX4_way 86 = .ok (.goto 7, 3) := by decide +kernel
theorem dX4_way_89 : decode cX4_way 89 = .ok (.iload 4, 2) := by decide +kernel
theorem dX4_way_91 : decode cX4_way 91 = .ok (.iconst 1, 1) := by decide +kernel
theorem dX4_way_92 : decode cX4_way 92 = .ok (.iadd, 1) := by decide +kernel
theorem dX4_way_93 : decode cX4_way 93 = .ok (.ireturn, 1) := by decide +kernel
theorem dX4_must_0 : decode cX4_must 0 = .ok (.aload_n 0, 1) := by decide +kernel
theorem dX4_must_1 : decode cX4_must 1 = .ok (.getfield 10, 3) := by decide +kernel
theorem dX4_must_4 : decode cX4_must 4 = .ok (.iload_n 1, 1) := by decide +kernel
theorem dX4_must_5 : decode cX4_must 5 = .ok (.invokevirtual 61, 3) := by decide +kernel
theorem dX4_must_8 : decode cX4_must 8 = .ok (.ifCond .eq 14, 3) := by decide +kernel
theorem dX4_must_11 : decode cX4_must 11 = .ok (.aload_n 0, 1) := by decide +kernel
theorem dX4_must_12 : decode cX4_must 12 = .ok (.getfield 10, 3) := by decide +kernel
theorem dX4_must_15 : decode cX4_must 15 = .ok (.iload_n 2, 1) := by decide +kernel
theorem dX4_must_16 : decode cX4_must 16 = .ok (.invokevirtual 61, 3) := by decide +kernel
theorem dX4_must_19 : decode cX4_must 19 = .ok (.ifCond .ne 5, 3) := by decide +kernel
theorem dX4_must_22 : decode cX4_must 22 = .ok (.iconst (-1), 1) := by decide +kernel
theorem dX4_must_23 : decode cX4_must 23 = .ok (.ireturn, 1) := by decide +kernel
theorem dX4_must_24 : decode cX4_must 24 = .ok (.iload_n 3, 1) := by decide +kernel
theorem dX4_must_25 : decode cX4_must 25 = .ok (.ifCond .ge 6, 3) := by decide +kernel
theorem dX4_must_28 : decode cX4_must 28 = .ok (.bipush (-2), 2) := by decide +kernel
theorem dX4_must_30 : decode cX4_must 30 = .ok (.ireturn, 1) := by decide +kernel
theorem dX4_must_31 : decode cX4_must 31 = .ok (.aload_n 0, 1) := by decide +kernel
theorem dX4_must_32 : decode cX4_must 32 = .ok (.getfield 21, 3) := by decide +kernel
theorem dX4_must_35 : decode cX4_must 35 = .ok (.iload_n 1, 1) := by decide +kernel
theorem dX4_must_36 : decode cX4_must 36 = .ok (.iload_n 2, 1) := by decide +kernel
theorem dX4_must_37 : decode cX4_must 37 = .ok (.iload_n 3, 1) := by decide +kernel
theorem dX4_must_38 : decode cX4_must 38 = .ok (.invokevirtual 181, 3) := by decide +kernel
theorem dX4_must_41 : decode cX4_must 41 = .ok (.ireturn, 1) := by decide +kernel
theorem dX4_cutOff_0 : decode cX4_cutOff 0 = .ok (.aload_n 0, 1) := by decide +kernel
theorem dX4_cutOff_1 : decode cX4_cutOff 1 = .ok (.getfield 10, 3) := by decide +kernel
theorem dX4_cutOff_4 : decode cX4_cutOff 4 = .ok (.iload_n 1, 1) := by decide +kernel
theorem dX4_cutOff_5 : decode cX4_cutOff 5 = .ok (.invokevirtual 61, 3) := by decide +kernel
theorem dX4_cutOff_8 : decode cX4_cutOff 8 = .ok (.ifCond .eq 14, 3) := by decide +kernel
theorem dX4_cutOff_11 : decode cX4_cutOff 11 = .ok (.aload_n 0, 1) := by decide +kernel
theorem dX4_cutOff_12 : decode cX4_cutOff 12 = .ok (.getfield 10, 3) := by decide +kernel
theorem dX4_cutOff_15 : decode cX4_cutOff 15 = .ok (.iload_n 2, 1) := by decide +kernel
theorem dX4_cutOff_16 : decode cX4_cutOff 16 = .ok (.invokevirtual 74, 3) := by decide +kernel
theorem dX4_cutOff_19 : decode cX4_cutOff 19 = .ok (.ifCond .ne 5, 3) := by decide +kernel
theorem dX4_cutOff_22 : decode cX4_cutOff 22 = .ok (.iconst (-1), 1) := by decide +kernel
theorem dX4_cutOff_23 : decode cX4_cutOff 23 = .ok (.ireturn, 1) := by decide +kernel
theorem dX4_cutOff_24 : decode cX4_cutOff 24 = .ok (.aload_n 0, 1) := by decide +kernel
theorem dX4_cutOff_25 : decode cX4_cutOff 25 = .ok (.getfield 21, 3) := by decide +kernel
theorem dX4_cutOff_28 : decode cX4_cutOff 28 = .ok (.iload_n 1, 1) := by decide +kernel
theorem dX4_cutOff_29 : decode cX4_cutOff 29 = .ok (.iload_n 2, 1) := by decide +kernel
theorem dX4_cutOff_30 : decode cX4_cutOff 30 = .ok (.invokevirtual 185, 3) := by decide +kernel
theorem dX4_cutOff_33 : decode cX4_cutOff 33 = .ok (.ireturn, 1) := by decide +kernel
theorem dX4_ifBuilt_0 : decode cX4_ifBuilt 0 = .ok (.aload_n 0, 1) := by decide +kernel
theorem dX4_ifBuilt_1 : decode cX4_ifBuilt 1 = .ok (.getfield 10, 3) := by decide +kernel
theorem dX4_ifBuilt_4 : decode cX4_ifBuilt 4 = .ok (.iload_n 1, 1) := by decide +kernel
theorem dX4_ifBuilt_5 : decode cX4_ifBuilt 5 = .ok (.invokevirtual 61, 3) := by decide +kernel
theorem dX4_ifBuilt_8 : decode cX4_ifBuilt 8 = .ok (.ifCond .eq 14, 3) := by decide +kernel
theorem dX4_ifBuilt_11 : decode cX4_ifBuilt 11 = .ok (.aload_n 0, 1) := by decide +kernel
theorem dX4_ifBuilt_12 : decode cX4_ifBuilt 12 = .ok (.getfield 10, 3) := by decide +kernel
theorem dX4_ifBuilt_15 : decode cX4_ifBuilt 15 = .ok (.iload_n 2, 1) := by decide +kernel
theorem dX4_ifBuilt_16 : decode cX4_ifBuilt 16 = .ok (.invokevirtual 61, 3) := by decide +kernel
theorem dX4_ifBuilt_19 : decode cX4_ifBuilt 19 = .ok (.ifCond .ne 5, 3) := by decide +kernel
theorem dX4_ifBuilt_22 : decode cX4_ifBuilt 22 = .ok (.iconst (-1), 1) := by decide +kernel
theorem dX4_ifBuilt_23 : decode cX4_ifBuilt 23 = .ok (.ireturn, 1) := by decide +kernel
theorem dX4_ifBuilt_24 : decode cX4_ifBuilt 24 = .ok (.iload_n 1, 1) := by decide +kernel
theorem dX4_ifBuilt_25 : decode cX4_ifBuilt 25 = .ok (.iload_n 2, 1) := by decide +kernel
theorem dX4_ifBuilt_26 : decode cX4_ifBuilt 26 = .ok (.if_icmp .ne 6, 3) := by decide +kernel
theorem dX4_ifBuilt_29 : decode cX4_ifBuilt 29 = .ok (.bipush (-2), 2) := by decide +kernel
theorem dX4_ifBuilt_31 : decode cX4_ifBuilt 31 = .ok (.ireturn, 1) := by decide +kernel
theorem dX4_ifBuilt_32 : decode cX4_ifBuilt 32 = .ok (.aload_n 0, 1) := by decide +kernel
theorem dX4_ifBuilt_33 : decode cX4_ifBuilt 33 = .ok (.getfield 21, 3) := by decide +kernel
theorem dX4_ifBuilt_36 : decode cX4_ifBuilt 36 = .ok (.iload_n 1, 1) := by decide +kernel
theorem dX4_ifBuilt_37 : decode cX4_ifBuilt 37 = .ok (.iload_n 2, 1) := by decide +kernel
theorem dX4_ifBuilt_38 : decode cX4_ifBuilt 38 = .ok (.invokevirtual 178, 3) := by decide +kernel
theorem dX4_ifBuilt_41 : decode cX4_ifBuilt 41 = .ok (.invokestatic 130, 3) := by decide +kernel
theorem dX4_ifBuilt_44 : decode cX4_ifBuilt 44 = .ok (.istore 4, 2) := by decide +kernel
theorem dX4_ifBuilt_46 : decode cX4_ifBuilt 46 = .ok (.iload_n 3, 1) := by decide +kernel
theorem dX4_ifBuilt_47 : decode cX4_ifBuilt 47 = .ok (.tableswitch 71 0 2 #[25, 28, 39], 25) := by decide +kernel
theorem dX4_ifBuilt_72 : decode cX4_ifBuilt 72 = .ok (.iload 4, 2) := by decide +kernel
theorem dX4_ifBuilt_74 : decode cX4_ifBuilt 74 = .ok (.ireturn, 1) := by decide +kernel
theorem dX4_ifBuilt_75 : decode cX4_ifBuilt 75 = .ok (.aload_n 0, 1) := by decide +kernel
theorem dX4_ifBuilt_76 : decode cX4_ifBuilt 76 = .ok (.getfield 21, 3) := by decide +kernel
theorem dX4_ifBuilt_79 : decode cX4_ifBuilt 79 = .ok (.getfield 144, 3) := by decide +kernel
theorem dX4_ifBuilt_82 : decode cX4_ifBuilt 82 = .ok (.iload 4, 2) := by decide +kernel
theorem dX4_ifBuilt_84 : decode cX4_ifBuilt 84 = .ok (.isub, 1) := by decide +kernel
theorem dX4_ifBuilt_85 : decode cX4_ifBuilt 85 = .ok (.ireturn, 1) := by decide +kernel
theorem dX4_ifBuilt_86 : decode cX4_ifBuilt 86 = .ok (.aload_n 0, 1) := by decide +kernel
theorem dX4_ifBuilt_87 : decode cX4_ifBuilt 87 = .ok (.getfield 21, 3) := by decide +kernel
theorem dX4_ifBuilt_90 : decode cX4_ifBuilt 90 = .ok (.iload_n 1, 1) := by decide +kernel
theorem dX4_ifBuilt_91 : decode cX4_ifBuilt 91 = .ok (.iload_n 2, 1) := by decide +kernel
theorem dX4_ifBuilt_92 : decode cX4_ifBuilt 92 = .ok (.invokevirtual 171, 3) := by decide +kernel
theorem dX4_ifBuilt_95 : decode cX4_ifBuilt 95 = .ok (.ifCond .eq 13, 3) := by decide +kernel
theorem dX4_ifBuilt_98 : decode cX4_ifBuilt 98 = .ok (.aload_n 0, 1) := by decide +kernel
theorem dX4_ifBuilt_99 : decode cX4_ifBuilt 99 = .ok (.getfield 21, 3) := by decide +kernel
theorem dX4_ifBuilt_102 : decode cX4_ifBuilt 102 = .ok (.getfield 71, 3) := by decide +kernel
theorem dX4_ifBuilt_105 : decode cX4_ifBuilt 105 = .ok (.goto 12, 3) := by decide +kernel
theorem dX4_ifBuilt_108 : decode cX4_ifBuilt 108 = .ok (.aload_n 0, 1) := by decide +kernel
theorem dX4_ifBuilt_109 : decode cX4_ifBuilt 109 = .ok (.getfield 21, 3) := by decide +kernel
theorem dX4_ifBuilt_112 : decode cX4_ifBuilt 112 = .ok (.getfield 71, 3) := by decide +kernel
theorem dX4_ifBuilt_115 : decode cX4_ifBuilt 115 = .ok (.iconst 1, 1) := by decide +kernel
theorem dX4_ifBuilt_116 : decode cX4_ifBuilt 116 = .ok (.isub, 1) := by decide +kernel
theorem dX4_ifBuilt_117 : decode cX4_ifBuilt 117 = .ok (.ireturn, 1) := by decide +kernel
theorem dX4_ifBuilt_118 : decode cX4_ifBuilt 118 = .ok (.bipush (-2), 2) := by decide +kernel
theorem dX4_ifBuilt_120 : decode cX4_ifBuilt 120 = .ok (.ireturn, 1) := by decide +kernel
theorem dX4_bestBuilt_0 : decode cX4_bestBuilt 0 = .ok (.iload_n 1, 1) := by decide +kernel
theorem dX4_bestBuilt_1 : decode cX4_bestBuilt 1 = .ok (.ifCond .lt 8, 3) := by decide +kernel
theorem dX4_bestBuilt_4 : decode cX4_bestBuilt 4 = .ok (.iload_n 1, 1) := by decide +kernel
theorem dX4_bestBuilt_5 : decode cX4_bestBuilt 5 = .ok (.iconst 2, 1) := by decide +kernel
theorem dX4_bestBuilt_6 : decode cX4_bestBuilt 6 = .ok (.if_icmp .le 6, 3) := by decide +kernel
theorem dX4_bestBuilt_9 : decode cX4_bestBuilt 9 = .ok (.bipush (-2), 2) := by decide +kernel
theorem dX4_bestBuilt_11 : decode cX4_bestBuilt 11 = .ok (.ireturn, 1) := by decide +kernel
theorem dX4_bestBuilt_12 : decode cX4_bestBuilt 12 = .ok (.iconst 0, 1) := by decide +kernel
theorem dX4_bestBuilt_13 : decode cX4_bestBuilt 13 = .ok (.istore_n 2, 1) := by decide +kernel
theorem dX4_bestBuilt_14 : decode cX4_bestBuilt 14 = .ok (.iconst 1, 1) := by decide +kernel
theorem dX4_bestBuilt_15 : decode cX4_bestBuilt 15 = .ok (.istore_n 3, 1) := by decide +kernel
theorem dX4_bestBuilt_16 : decode cX4_bestBuilt 16 = .ok (.aload_n 0, 1) := by decide +kernel
theorem dX4_bestBuilt_17 : decode cX4_bestBuilt 17 = .ok (.getfield 21, 3) := by decide +kernel
theorem dX4_bestBuilt_20 : decode cX4_bestBuilt 20 = .ok (.iload_n 2, 1) := by decide +kernel
theorem dX4_bestBuilt_21 : decode cX4_bestBuilt 21 = .ok (.iload_n 3, 1) := by decide +kernel
theorem dX4_bestBuilt_22 : decode cX4_bestBuilt 22 = .ok (.invokevirtual 188, 3) := by decide +kernel
theorem dX4_bestBuilt_25 : decode cX4_bestBuilt 25 = .ok (.istore 4, 2) := by decide +kernel
theorem dX4_bestBuilt_27 : decode cX4_bestBuilt 27 = .ok (.iconst 0, 1) := by decide +kernel
theorem dX4_bestBuilt_28 : decode cX4_bestBuilt 28 = .ok (.istore 5, 2) := by decide +kernel
theorem dX4_bestBuilt_30 : decode cX4_bestBuilt 30 = .ok (.iload 5, 2) := by decide +kernel
theorem dX4_bestBuilt_32 : decode cX4_bestBuilt 32 = .ok (.aload_n 0, 1) := by decide +kernel
theorem dX4_bestBuilt_33 : decode cX4_bestBuilt 33 = .ok (.getfield 10, 3) := by decide +kernel
theorem dX4_bestBuilt_36 : decode cX4_bestBuilt 36 = .ok (.getfield 51, 3) := by decide +kernel
theorem dX4_bestBuilt_39 : decode cX4_bestBuilt 39 = .ok (.if_icmp .ge 63, 3) := by decide +kernel
theorem dX4_bestBuilt_42 : decode cX4_bestBuilt 42 = .ok (.iload 5, 2) := by decide +kernel
theorem dX4_bestBuilt_44 : decode cX4_bestBuilt 44 = .ok (.iconst 1, 1) := by decide +kernel
theorem dX4_bestBuilt_45 : decode cX4_bestBuilt 45 = .ok (.iadd, 1) := by decide +kernel
theorem dX4_bestBuilt_46 : decode cX4_bestBuilt 46 = .ok (.istore 6, 2) := by decide +kernel
theorem dX4_bestBuilt_48 : decode cX4_bestBuilt 48 = .ok (.iload 6, 2) := by decide +kernel
theorem dX4_bestBuilt_50 : decode cX4_bestBuilt 50 = .ok (.aload_n 0, 1) := by decide +kernel
theorem dX4_bestBuilt_51 : decode cX4_bestBuilt 51 = .ok (.getfield 10, 3) := by decide +kernel
theorem dX4_bestBuilt_54 : decode cX4_bestBuilt 54 = .ok (.getfield 51, 3) := by decide +kernel
theorem dX4_bestBuilt_57 : decode cX4_bestBuilt 57 = .ok (.if_icmp .ge 39, 3) := by decide +kernel
theorem dX4_bestBuilt_60 : decode cX4_bestBuilt 60 = .ok (.aload_n 0, 1) := by decide +kernel
theorem dX4_bestBuilt_61 : decode cX4_bestBuilt 61 = .ok (.getfield 21, 3) := by decide +kernel
theorem dX4_bestBuilt_64 : decode cX4_bestBuilt 64 = .ok (.iload 5, 2) := by decide +kernel
theorem dX4_bestBuilt_66 : decode cX4_bestBuilt 66 = .ok (.iload 6, 2) := by decide +kernel
theorem dX4_bestBuilt_68 : decode cX4_bestBuilt 68 = .ok (.invokevirtual 188, 3) := by decide +kernel
theorem dX4_bestBuilt_71 : decode cX4_bestBuilt 71 = .ok (.istore 7, 2) := by decide +kernel
theorem dX4_bestBuilt_73 : decode cX4_bestBuilt 73 = .ok (.iload 7, 2) := by decide +kernel
theorem dX4_bestBuilt_75 : decode cX4_bestBuilt 75 = .ok (.iload 4, 2) := by decide +kernel
theorem dX4_bestBuilt_77 : decode cX4_bestBuilt 77 = .ok (.if_icmp .ge 13, 3) := by decide +kernel
theorem dX4_bestBuilt_80 : decode cX4_bestBuilt 80 = .ok (.iload 7, 2) := by decide +kernel
theorem dX4_bestBuilt_82 : decode cX4_bestBuilt 82 = .ok (.istore 4, 2) := by decide +kernel
theorem dX4_bestBuilt_84 : decode cX4_bestBuilt 84 = .ok (.iload 5, 2) := by decide +kernel
theorem dX4_bestBuilt_86 : decode cX4_bestBuilt 86 = .ok (.istore_n 2, 1) := by decide +kernel
theorem dX4_bestBuilt_87 : decode cX4_bestBuilt 87 = .ok (.iload 6, 2) := by decide +kernel
theorem dX4_bestBuilt_89 : decode cX4_bestBuilt 89 = .ok (.istore_n 3, 1) := by decide +kernel
theorem dX4_bestBuilt_90 : decode cX4_bestBuilt 90 = .ok (.iinc 6 1, 3) := by decide +kernel
theorem dX4_bestBuilt_93 : decode cX4_bestBuilt 93 = .ok (.goto (-45), 3) := by decide +kernel
theorem dX4_bestBuilt_96 : decode cX4_bestBuilt 96 = .ok (.iinc 5 1, 3) := by decide +kernel
theorem dX4_bestBuilt_99 : decode cX4_bestBuilt 99 = .ok (.goto (-69), 3) := by decide +kernel
theorem dX4_bestBuilt_102 : decode cX4_bestBuilt 102 = .ok (.iload_n 1, 1) := by decide +kernel
theorem dX4_bestBuilt_103 : decode cX4_bestBuilt 103 = .ok (.iconst 2, 1) := by decide +kernel
theorem dX4_bestBuilt_104 : decode cX4_bestBuilt 104 = .ok (.if_icmp .ne 6, 3) := by decide +kernel
theorem dX4_bestBuilt_107 : decode cX4_bestBuilt 107 = .ok (.iload 4, 2) := by decide +kernel
theorem dX4_bestBuilt_109 : decode cX4_bestBuilt 109 = .ok (.ireturn, 1) := by decide +kernel
theorem dX4_bestBuilt_110 : decode cX4_bestBuilt 110 = .ok (.iload_n 1, 1) := by decide +kernel
theorem dX4_bestBuilt_111 : decode cX4_bestBuilt 111 = .ok (.ifCond .ne 7, 3) := by decide +kernel
theorem dX4_bestBuilt_114 : decode cX4_bestBuilt 114 = .ok (.iload_n 2, 1) := by decide +kernel
theorem dX4_bestBuilt_115 : decode cX4_bestBuilt 115 = .ok (.goto 4, 3) := by decide +kernel
theorem dX4_bestBuilt_118 : decode cX4_bestBuilt 118 = .ok (.iload_n 3, 1) := by decide +kernel
theorem dX4_bestBuilt_119 : decode cX4_bestBuilt 119 = .ok (.ireturn, 1) := by decide +kernel
theorem dX4_worstLoss_0 : decode cX4_worstLoss 0 = .ok (.iload_n 1, 1) := by decide +kernel
theorem dX4_worstLoss_1 : decode cX4_worstLoss 1 = .ok (.ifCond .eq 11, 3) := by decide +kernel
theorem dX4_worstLoss_4 : decode cX4_worstLoss 4 = .ok (.iload_n 1, 1) := by decide +kernel
theorem dX4_worstLoss_5 : decode cX4_worstLoss 5 = .ok (.iconst 1, 1) := by decide +kernel
theorem dX4_worstLoss_6 : decode cX4_worstLoss 6 = .ok (.if_icmp .eq 6, 3) := by decide +kernel
theorem dX4_worstLoss_9 : decode cX4_worstLoss 9 = .ok (.bipush (-2), 2) := by decide +kernel
theorem dX4_worstLoss_11 : decode cX4_worstLoss 11 = .ok (.ireturn, 1) := by decide +kernel
theorem dX4_worstLoss_12 : decode cX4_worstLoss 12 = .ok (.aload_n 0, 1) := by decide +kernel
theorem dX4_worstLoss_13 : decode cX4_worstLoss 13 = .ok (.getfield 10, 3) := by decide +kernel
theorem dX4_worstLoss_16 : decode cX4_worstLoss 16 = .ok (.getfield 64, 3) := by decide +kernel
theorem dX4_worstLoss_19 : decode cX4_worstLoss 19 = .ok (.ifCond .ne 6, 3) := by decide +kernel
theorem dX4_worstLoss_22 : decode cX4_worstLoss 22 = .ok (.bipush (-6), 2) := by decide +kernel
theorem dX4_worstLoss_24 : decode cX4_worstLoss 24 = .ok (.ireturn, 1) := by decide +kernel
theorem dX4_worstLoss_25 : decode cX4_worstLoss 25 = .ok (.iconst 0, 1) := by decide +kernel
theorem dX4_worstLoss_26 : decode cX4_worstLoss 26 = .ok (.istore_n 2, 1) := by decide +kernel
theorem dX4_worstLoss_27 : decode cX4_worstLoss 27 = .ok (.aload_n 0, 1) := by decide +kernel
theorem dX4_worstLoss_28 : decode cX4_worstLoss 28 = .ok (.getfield 21, 3) := by decide +kernel
theorem dX4_worstLoss_31 : decode cX4_worstLoss 31 = .ok (.iload_n 2, 1) := by decide +kernel
theorem dX4_worstLoss_32 : decode cX4_worstLoss 32 = .ok (.invokevirtual 124, 3) := by decide +kernel
theorem dX4_worstLoss_35 : decode cX4_worstLoss 35 = .ok (.istore_n 3, 1) := by decide +kernel
theorem dX4_worstLoss_36 : decode cX4_worstLoss 36 = .ok (.iconst 1, 1) := by decide +kernel
theorem dX4_worstLoss_37 : decode cX4_worstLoss 37 = .ok (.istore 4, 2) := by decide +kernel
theorem dX4_worstLoss_39 : decode cX4_worstLoss 39 = .ok (.iload 4, 2) := by decide +kernel
theorem dX4_worstLoss_41 : decode cX4_worstLoss 41 = .ok (.aload_n 0, 1) := by decide +kernel
theorem dX4_worstLoss_42 : decode cX4_worstLoss 42 = .ok (.getfield 10, 3) := by decide +kernel
theorem dX4_worstLoss_45 : decode cX4_worstLoss 45 = .ok (.getfield 64, 3) := by decide +kernel
theorem dX4_worstLoss_48 : decode cX4_worstLoss 48 = .ok (.if_icmp .ge 32, 3) := by decide +kernel
theorem dX4_worstLoss_51 : decode cX4_worstLoss 51 = .ok (.aload_n 0, 1) := by decide +kernel
theorem dX4_worstLoss_52 : decode cX4_worstLoss 52 = .ok (.getfield 21, 3) := by decide +kernel
theorem dX4_worstLoss_55 : decode cX4_worstLoss 55 = .ok (.iload 4, 2) := by decide +kernel
theorem dX4_worstLoss_57 : decode cX4_worstLoss 57 = .ok (.invokevirtual 124, 3) := by decide +kernel
theorem dX4_worstLoss_60 : decode cX4_worstLoss 60 = .ok (.istore 5, 2) := by decide +kernel
theorem dX4_worstLoss_62 : decode cX4_worstLoss 62 = .ok (.iload 5, 2) := by decide +kernel
theorem dX4_worstLoss_64 : decode cX4_worstLoss 64 = .ok (.iload_n 3, 1) := by decide +kernel
theorem dX4_worstLoss_65 : decode cX4_worstLoss 65 = .ok (.if_icmp .le 9, 3) := by decide +kernel
theorem dX4_worstLoss_68 : decode cX4_worstLoss 68 = .ok (.iload 5, 2) := by decide +kernel
theorem dX4_worstLoss_70 : decode cX4_worstLoss 70 = .ok (.istore_n 3, 1) := by decide +kernel
theorem dX4_worstLoss_71 : decode cX4_worstLoss 71 = .ok (.iload 4, 2) := by decide +kernel
theorem dX4_worstLoss_73 : decode cX4_worstLoss 73 = .ok (.istore_n 2, 1) := by decide +kernel
theorem dX4_worstLoss_74 : decode cX4_worstLoss 74 = .ok (.iinc 4 1, 3) := by decide +kernel
theorem dX4_worstLoss_77 : decode cX4_worstLoss 77 = .ok (.goto (-38), 3) := by decide +kernel
theorem dX4_worstLoss_80 : decode cX4_worstLoss 80 = .ok (.iload_n 1, 1) := by decide +kernel
theorem dX4_worstLoss_81 : decode cX4_worstLoss 81 = .ok (.ifCond .ne 7, 3) := by decide +kernel
theorem dX4_worstLoss_84 : decode cX4_worstLoss 84 = .ok (.iload_n 2, 1) := by decide +kernel
theorem dX4_worstLoss_85 : decode cX4_worstLoss 85 = .ok (.goto 4, 3) := by decide +kernel
theorem dX4_worstLoss_88 : decode cX4_worstLoss 88 = .ok (.iload_n 3, 1) := by decide +kernel
theorem dX4_worstLoss_89 : decode cX4_worstLoss 89 = .ok (.ireturn, 1) := by decide +kernel
theorem dX4_needed_0 : decode cX4_needed 0 = .ok (.aload_n 0, 1) := by decide +kernel
theorem dX4_needed_1 : decode cX4_needed 1 = .ok (.getfield 10, 3) := by decide +kernel
theorem dX4_needed_4 : decode cX4_needed 4 = .ok (.iload_n 1, 1) := by decide +kernel
theorem dX4_needed_5 : decode cX4_needed 5 = .ok (.invokevirtual 61, 3) := by decide +kernel
theorem dX4_needed_8 : decode cX4_needed 8 = .ok (.ifCond .ne 5, 3) := by decide +kernel
theorem dX4_needed_11 : decode cX4_needed 11 = .ok (.iconst (-1), 1) := by decide +kernel
theorem dX4_needed_12 : decode cX4_needed 12 = .ok (.ireturn, 1) := by decide +kernel
theorem dX4_needed_13 : decode cX4_needed 13 = .ok (.aload_n 0, 1) := by decide +kernel
theorem dX4_needed_14 : decode cX4_needed 14 = .ok (.getfield 21, 3) := by decide +kernel
theorem dX4_needed_17 : decode cX4_needed 17 = .ok (.aload_n 0, 1) := by decide +kernel
theorem dX4_needed_18 : decode cX4_needed 18 = .ok (.getfield 21, 3) := by decide +kernel
theorem dX4_needed_21 : decode cX4_needed 21 = .ok (.getfield 141, 3) := by decide +kernel
theorem dX4_needed_24 : decode cX4_needed 24 = .ok (.iload_n 1, 1) := by decide +kernel
theorem dX4_needed_25 : decode cX4_needed 25 = .ok (.iaload, 1) := by decide +kernel
theorem dX4_needed_26 : decode cX4_needed 26 = .ok (.invokevirtual 191, 3) := by decide +kernel
theorem dX4_needed_29 : decode cX4_needed 29 = .ok (.istore_n 2, 1) := by decide +kernel
theorem dX4_needed_30 : decode cX4_needed 30 = .ok (.iload_n 2, 1) := by decide +kernel
theorem dX4_needed_31 : decode cX4_needed 31 = .ok (.iconst 1, 1) := by decide +kernel
theorem dX4_needed_32 : decode cX4_needed 32 = .ok (.iadd, 1) := by decide +kernel
theorem dX4_needed_33 : decode cX4_needed 33 = .ok (.iconst 2, 1) := by decide +kernel
theorem dX4_needed_34 : decode cX4_needed 34 = .ok (.idiv, 1) := by decide +kernel
theorem dX4_needed_35 : decode cX4_needed 35 = .ok (.ireturn, 1) := by decide +kernel
theorem dX4_put_0 : decode cX4_put 0 = .ok (.lload_n 1, 1) := by decide +kernel
theorem dX4_put_1 : decode cX4_put 1 = .ok (.invokestatic 194, 3) := by decide +kernel
theorem dX4_put_4 : decode cX4_put 4 = .ok (.istore_n 3, 1) := by decide +kernel
theorem dX4_put_5 : decode cX4_put 5 = .ok (.iload_n 3, 1) := by decide +kernel
theorem dX4_put_6 : decode cX4_put 6 = .ok (.ifCond .ne 6, 3) := by decide +kernel
theorem dX4_put_9 : decode cX4_put 9 = .ok (.bipush (-2), 2) := by decide +kernel
theorem dX4_put_11 : decode cX4_put 11 = .ok (.ireturn, 1) := by decide +kernel
theorem dX4_put_12 : decode cX4_put 12 = .ok (.aload_n 0, 1) := by decide +kernel
theorem dX4_put_13 : decode cX4_put 13 = .ok (.getfield 28, 3) := by decide +kernel
theorem dX4_put_16 : decode cX4_put 16 = .ok (.getfield 101, 3) := by decide +kernel
theorem dX4_put_19 : decode cX4_put 19 = .ok (.iload_n 3, 1) := by decide +kernel
theorem dX4_put_20 : decode cX4_put 20 = .ok (.iadd, 1) := by decide +kernel
theorem dX4_put_21 : decode cX4_put 21 = .ok (.bipush 80, 2) := by decide +kernel
theorem dX4_put_23 : decode cX4_put 23 = .ok (.if_icmp .le 6, 3) := by decide +kernel
theorem dX4_put_26 : decode cX4_put 26 = .ok (.bipush (-4), 2) := by decide +kernel
theorem dX4_put_28 : decode cX4_put 28 = .ok (.ireturn, 1) := by decide +kernel
theorem dX4_put_29 : decode cX4_put 29 = .ok (.aload_n 0, 1) := by decide +kernel
theorem dX4_put_30 : decode cX4_put 30 = .ok (.getfield 28, 3) := by decide +kernel
theorem dX4_put_33 : decode cX4_put 33 = .ok (.lload_n 1, 1) := by decide +kernel
theorem dX4_put_34 : decode cX4_put 34 = .ok (.iload_n 3, 1) := by decide +kernel
theorem dX4_put_35 : decode cX4_put 35 = .ok (.invokevirtual 198, 3) := by decide +kernel
theorem dX4_put_38 : decode cX4_put 38 = .ok (.aload_n 0, 1) := by decide +kernel
theorem dX4_put_39 : decode cX4_put 39 = .ok (.getfield 28, 3) := by decide +kernel
theorem dX4_put_42 : decode cX4_put 42 = .ok (.getfield 101, 3) := by decide +kernel
theorem dX4_put_45 : decode cX4_put 45 = .ok (.ireturn, 1) := by decide +kernel
theorem dX4_wipe_0 : decode cX4_wipe 0 = .ok (.aload_n 0, 1) := by decide +kernel
theorem dX4_wipe_1 : decode cX4_wipe 1 = .ok (.getfield 28, 3) := by decide +kernel
theorem dX4_wipe_4 : decode cX4_wipe 4 = .ok (.getfield 101, 3) := by decide +kernel
theorem dX4_wipe_7 : decode cX4_wipe 7 = .ok (.istore_n 1, 1) := by decide +kernel
theorem dX4_wipe_8 : decode cX4_wipe 8 = .ok (.aload_n 0, 1) := by decide +kernel
theorem dX4_wipe_9 : decode cX4_wipe 9 = .ok (.getfield 28, 3) := by decide +kernel
theorem dX4_wipe_12 : decode cX4_wipe 12 = .ok (.iconst 0, 1) := by decide +kernel
theorem dX4_wipe_13 : decode cX4_wipe 13 = .ok (.putfield 101, 3) := by decide +kernel
theorem dX4_wipe_16 : decode cX4_wipe 16 = .ok (.iload_n 1, 1) := by decide +kernel
theorem dX4_wipe_17 : decode cX4_wipe 17 = .ok (.ireturn, 1) := by decide +kernel
theorem dX4_fault_0 : decode cX4_fault 0 = .ok (.aload_n 0, 1) := by decide +kernel
theorem dX4_fault_1 : decode cX4_fault 1 = .ok (.getfield 28, 3) := by decide +kernel
theorem dX4_fault_4 : decode cX4_fault 4 = .ok (.invokevirtual 81, 3) := by decide +kernel
theorem dX4_fault_7 : decode cX4_fault 7 = .ok (.ireturn, 1) := by decide +kernel
theorem dX4_charactersIn_0 : decode cX4_charactersIn 0 = .ok (.lload_n 0, 1) := by decide +kernel
theorem dX4_charactersIn_1 : decode cX4_charactersIn 1 = .ok (.lstore_n 2, 1) := by decide +kernel
theorem dX4_charactersIn_2 : decode cX4_charactersIn 2 = .ok (.iconst 0, 1) := by decide +kernel
theorem dX4_charactersIn_3 : decode cX4_charactersIn 3 = .ok (.istore 4, 2) := by decide +kernel
theorem dX4_charactersIn_5 : decode cX4_charactersIn 5 = .ok (.iconst 0, 1) := by decide +kernel
theorem dX4_charactersIn_6 : decode cX4_charactersIn 6 = .ok (.istore 5, 2) := by decide +kernel
theorem dX4_charactersIn_8 : decode cX4_charactersIn 8 = .ok (.iload 5, 2) := by decide +kernel
theorem dX4_charactersIn_10 : decode cX4_charactersIn 10 = .ok (.bipush 8, 2) := by decide +kernel
theorem dX4_charactersIn_12 : decode cX4_charactersIn 12 = .ok (.if_icmp .ge 50, 3) := by decide +kernel
theorem dX4_charactersIn_15 : decode cX4_charactersIn 15 = .ok (.lload_n 2, 1) := by decide +kernel
theorem dX4_charactersIn_16 : decode cX4_charactersIn 16 = .ok (.lconst 0, 1) := by decide +kernel
theorem dX4_charactersIn_17 : decode cX4_charactersIn 17 = .ok (.lcmp, 1) := by decide +kernel
theorem dX4_charactersIn_18 : decode cX4_charactersIn 18 = .ok (.ifCond .eq 44, 3) := by decide +kernel
theorem dX4_charactersIn_21 : decode cX4_charactersIn 21 = .ok (.lload_n 2, 1) := by decide +kernel
theorem dX4_charactersIn_22 : decode cX4_charactersIn 22 = .ok (.ldc2_w 202, 3) := by decide +kernel
theorem dX4_charactersIn_25 : decode cX4_charactersIn 25 = .ok (.land, 1) := by decide +kernel
theorem dX4_charactersIn_26 : decode cX4_charactersIn 26 = .ok (.lstore 6, 2) := by decide +kernel
theorem dX4_charactersIn_28 : decode cX4_charactersIn 28 = .ok (.lload 6, 2) := by decide +kernel
theorem dX4_charactersIn_30 : decode cX4_charactersIn 30 = .ok (.ldc2_w 204, 3) := by decide +kernel
theorem dX4_charactersIn_33 : decode cX4_charactersIn 33 = .ok (.lcmp, 1) := by decide +kernel
theorem dX4_charactersIn_34 : decode cX4_charactersIn 34 = .ok (.ifCond .lt 12, 3) := by decide +kernel
theorem dX4_charactersIn_37 : decode cX4_charactersIn 37 = .ok (.lload 6, 2) := by decide +kernel
theorem dX4_charactersIn_39 : decode cX4_charactersIn 39 = .ok (.ldc2_w 206, 3) := by decide +kernel
theorem dX4_charactersIn_42 : decode cX4_charactersIn 42 = .ok (.lcmp, 1) := by decide +kernel
theorem dX4_charactersIn_43 : decode cX4_charactersIn 43 = .ok (.ifCond .le 5, 3) := by decide +kernel
theorem dX4_charactersIn_46 : decode cX4_charactersIn 46 = .ok (.iconst 0, 1) := by decide +kernel
theorem dX4_charactersIn_47 : decode cX4_charactersIn 47 = .ok (.ireturn, 1) := by decide +kernel
theorem dX4_charactersIn_48 : decode cX4_charactersIn 48 = .ok (.lload_n 2, 1) := by decide +kernel
theorem dX4_charactersIn_49 : decode cX4_charactersIn 49 = .ok (.bipush 8, 2) := by decide +kernel
theorem dX4_charactersIn_51 : decode cX4_charactersIn 51 = .ok (.lushr, 1) := by decide +kernel
theorem dX4_charactersIn_52 : decode cX4_charactersIn 52 = .ok (.lstore_n 2, 1) := by decide +kernel
theorem dX4_charactersIn_53 : decode cX4_charactersIn 53 = .ok (.iinc 4 1, 3) := by decide +kernel
theorem dX4_charactersIn_56 : decode cX4_charactersIn 56 = .ok (.iinc 5 1, 3) := by decide +kernel
theorem dX4_charactersIn_59 : decode cX4_charactersIn 59 = .ok (.goto (-51), 3) := by decide +kernel
theorem dX4_charactersIn_62 : decode cX4_charactersIn 62 = .ok (.iload 4, 2) := by decide +kernel
theorem dX4_charactersIn_64 : decode cX4_charactersIn 64 = .ok (.ireturn, 1) := by decide +kernel
theorem dX4_undo_0 : decode cX4_undo 0 = .ok (.aload_n 0, 1) := by decide +kernel
theorem dX4_undo_1 : decode cX4_undo 1 = .ok (.getfield 35, 3) := by decide +kernel
theorem dX4_undo_4 : decode cX4_undo 4 = .ok (.getfield 168, 3) := by decide +kernel
theorem dX4_undo_7 : decode cX4_undo 7 = .ok (.ifCond .ne 6, 3) := by decide +kernel
theorem dX4_undo_10 : decode cX4_undo 10 = .ok (.bipush (-5), 2) := by decide +kernel
theorem dX4_undo_12 : decode cX4_undo 12 = .ok (.ireturn, 1) := by decide +kernel
theorem dX4_undo_13 : decode cX4_undo 13 = .ok (.aload_n 0, 1) := by decide +kernel
theorem dX4_undo_14 : decode cX4_undo 14 = .ok (.getfield 35, 3) := by decide +kernel
theorem dX4_undo_17 : decode cX4_undo 17 = .ok (.aload_n 0, 1) := by decide +kernel
theorem dX4_undo_18 : decode cX4_undo 18 = .ok (.getfield 10, 3) := by decide +kernel
theorem dX4_undo_21 : decode cX4_undo 21 = .ok (.invokevirtual 208, 3) := by decide +kernel
theorem dX4_undo_24 : decode cX4_undo 24 = .ok (.aload_n 0, 1) := by decide +kernel
theorem dX4_undo_25 : decode cX4_undo 25 = .ok (.getfield 21, 3) := by decide +kernel
theorem dX4_undo_28 : decode cX4_undo 28 = .ok (.invokevirtual 58, 3) := by decide +kernel
theorem dX4_undo_31 : decode cX4_undo 31 = .ok (.aload_n 0, 1) := by decide +kernel
theorem dX4_undo_32 : decode cX4_undo 32 = .ok (.getfield 35, 3) := by decide +kernel
theorem dX4_undo_35 : decode cX4_undo 35 = .ok (.getfield 168, 3) := by decide +kernel
theorem dX4_undo_38 : decode cX4_undo 38 = .ok (.ireturn, 1) := by decide +kernel
theorem dX4_save_0 : decode cX4_save 0 = .ok (.iload_n 1, 1) := by decide +kernel
theorem dX4_save_1 : decode cX4_save 1 = .ok (.ifCond .lt 8, 3) := by decide +kernel
theorem dX4_save_4 : decode cX4_save 4 = .ok (.iload_n 1, 1) := by decide +kernel
theorem dX4_save_5 : decode cX4_save 5 = .ok (.iconst 2, 1) := by decide +kernel
theorem dX4_save_6 : decode cX4_save 6 = .ok (.if_icmp .lt 6, 3) := by decide +kernel
theorem dX4_save_9 : decode cX4_save 9 = .ok (.bipush (-2), 2) := by decide +kernel
theorem dX4_save_11 : decode cX4_save 11 = .ok (.ireturn, 1) := by decide +kernel
theorem dX4_save_12 : decode cX4_save 12 = .ok (.aload_n 0, 1) := by decide +kernel
theorem dX4_save_13 : decode cX4_save 13 = .ok (.getfield 39, 3) := by decide +kernel
theorem dX4_save_16 : decode cX4_save 16 = .ok (.iload_n 1, 1) := by decide +kernel
theorem dX4_save_17 : decode cX4_save 17 = .ok (.aaload, 1) := by decide +kernel
theorem dX4_save_18 : decode cX4_save 18 = .ok (.aload_n 0, 1) := by decide +kernel
theorem dX4_save_19 : decode cX4_save 19 = .ok (.getfield 10, 3) := by decide +kernel
theorem dX4_save_22 : decode cX4_save 22 = .ok (.invokevirtual 211, 3) := by decide +kernel
theorem dX4_save_25 : decode cX4_save 25 = .ok (.aload_n 0, 1) := by decide +kernel
theorem dX4_save_26 : decode cX4_save 26 = .ok (.getfield 43, 3) := by decide +kernel
theorem dX4_save_29 : decode cX4_save 29 = .ok (.iload_n 1, 1) := by decide +kernel
theorem dX4_save_30 : decode cX4_save 30 = .ok (.iconst 1, 1) := by decide +kernel
theorem dX4_save_31 : decode cX4_save 31 = .ok (.bastore, 1) := by decide +kernel
theorem dX4_save_32 : decode cX4_save 32 = .ok (.aload_n 0, 1) := by decide +kernel
theorem dX4_save_33 : decode cX4_save 33 = .ok (.getfield 10, 3) := by decide +kernel
theorem dX4_save_36 : decode cX4_save 36 = .ok (.getfield 64, 3) := by decide +kernel
theorem dX4_save_39 : decode cX4_save 39 = .ok (.ireturn, 1) := by decide +kernel
theorem dX4_restore_0 : decode cX4_restore 0 = .ok (.iload_n 1, 1) := by decide +kernel
theorem dX4_restore_1 : decode cX4_restore 1 = .ok (.ifCond .lt 8, 3) := by decide +kernel
theorem dX4_restore_4 : decode cX4_restore 4 = .ok (.iload_n 1, 1) := by decide +kernel
theorem dX4_restore_5 : decode cX4_restore 5 = .ok (.iconst 2, 1) := by decide +kernel
theorem dX4_restore_6 : decode cX4_restore 6 = .ok (.if_icmp .lt 6, 3) := by decide +kernel
theorem dX4_restore_9 : decode cX4_restore 9 = .ok (.bipush (-2), 2) := by decide +kernel
theorem dX4_restore_11 : decode cX4_restore 11 = .ok (.ireturn, 1) := by decide +kernel
theorem dX4_restore_12 : decode cX4_restore 12 = .ok (.aload_n 0, 1) := by decide +kernel
theorem dX4_restore_13 : decode cX4_restore 13 = .ok (.getfield 43, 3) := by decide +kernel
theorem dX4_restore_16 : decode cX4_restore 16 = .ok (.iload_n 1, 1) := by decide +kernel
theorem dX4_restore_17 : decode cX4_restore 17 = .ok (.baload, 1) := by decide +kernel
theorem dX4_restore_18 : decode cX4_restore 18 = .ok (.ifCond .ne 6, 3) := by decide +kernel
theorem dX4_restore_21 : decode cX4_restore 21 = .ok (.bipush (-5), 2) := by decide +kernel
theorem dX4_restore_23 : decode cX4_restore 23 = .ok (.ireturn, 1) := by decide +kernel
theorem dX4_restore_24 : decode cX4_restore 24 = .ok (.aload_n 0, 1) := by decide +kernel
theorem dX4_restore_25 : decode cX4_restore 25 = .ok (.getfield 35, 3) := by decide +kernel
theorem dX4_restore_28 : decode cX4_restore 28 = .ok (.aload_n 0, 1) := by decide +kernel
theorem dX4_restore_29 : decode cX4_restore 29 = .ok (.getfield 10, 3) := by decide +kernel
theorem dX4_restore_32 : decode cX4_restore 32 = .ok (.invokevirtual 55, 3) := by decide +kernel
theorem dX4_restore_35 : decode cX4_restore 35 = .ok (.aload_n 0, 1) := by decide +kernel
theorem dX4_restore_36 : decode cX4_restore 36 = .ok (.getfield 10, 3) := by decide +kernel
theorem dX4_restore_39 : decode cX4_restore 39 = .ok (.aload_n 0, 1) := by decide +kernel
theorem dX4_restore_40 : decode cX4_restore 40 = .ok (.getfield 39, 3) := by decide +kernel
theorem dX4_restore_43 : decode cX4_restore 43 = .ok (.iload_n 1, 1) := by decide +kernel
theorem dX4_restore_44 : decode cX4_restore 44 = .ok (.aaload, 1) := by decide +kernel
theorem dX4_restore_45 : decode cX4_restore 45 = .ok (.invokevirtual 211, 3) := by decide +kernel
theorem dX4_restore_48 : decode cX4_restore 48 = .ok (.aload_n 0, 1) := by decide +kernel
theorem dX4_restore_49 : decode cX4_restore 49 = .ok (.getfield 21, 3) := by decide +kernel
theorem dX4_restore_52 : decode cX4_restore 52 = .ok (.invokevirtual 58, 3) := by decide +kernel
theorem dX4_restore_55 : decode cX4_restore 55 = .ok (.aload_n 0, 1) := by decide +kernel
theorem dX4_restore_56 : decode cX4_restore 56 = .ok (.getfield 10, 3) := by decide +kernel
theorem dX4_restore_59 : decode cX4_restore 59 = .ok (.getfield 64, 3) := by decide +kernel
theorem dX4_restore_62 : decode cX4_restore 62 = .ok (.ireturn, 1) := by decide +kernel
theorem dX4_contains_0 : decode cX4_contains 0 = .ok (.iload_n 0, 1) := by decide +kernel
theorem dX4_contains_1 : decode cX4_contains 1 = .ok (.iload_n 1, 1) := by decide +kernel
theorem dX4_contains_2 : decode cX4_contains 2 = .ok (.ishr, 1) := by decide +kernel
theorem dX4_contains_3 : decode cX4_contains 3 = .ok (.iconst 1, 1) := by decide +kernel
theorem dX4_contains_4 : decode cX4_contains 4 = .ok (.iand, 1) := by decide +kernel
theorem dX4_contains_5 : decode cX4_contains 5 = .ok (.ifCond .eq 7, 3) := by decide +kernel
theorem dX4_contains_8 : decode cX4_contains 8 = .ok (.iconst 1, 1) := by decide +kernel
theorem dX4_contains_9 : decode cX4_contains 9 = .ok (.goto 4, 3) := by decide +kernel
theorem dX4_contains_12 : decode cX4_contains 12 = .ok (.iconst 0, 1) := by decide +kernel
theorem dX4_contains_13 : decode cX4_contains 13 = .ok (.ireturn, 1) := by decide +kernel
theorem dX4_setForMembers_0 : decode cX4_setForMembers 0 = .ok (.iconst 0, 1) := by decide +kernel
theorem dX4_setForMembers_1 : decode cX4_setForMembers 1 = .ok (.istore_n 3, 1) := by decide +kernel
theorem dX4_setForMembers_2 : decode cX4_setForMembers 2 = .ok (.iload_n 3, 1) := by decide +kernel
theorem dX4_setForMembers_3 : decode cX4_setForMembers 3 = .ok (.aload_n 0, 1) := by decide +kernel
theorem dX4_setForMembers_4 : decode cX4_setForMembers 4 = .ok (.arraylength, 1) := by decide +kernel
theorem dX4_setForMembers_5 : decode cX4_setForMembers 5 = .ok (.if_icmp .ge 21, 3) := by decide +kernel
theorem dX4_setForMembers_8 : decode cX4_setForMembers 8 = .ok (.iload_n 1, 1) := by decide +kernel
theorem dX4_setForMembers_9 : decode cX4_setForMembers 9 = .ok (.iload_n 3, 1) := by decide +kernel
theorem dX4_setForMembers_10 : decode cX4_setForMembers 10 = .ok (.invokestatic 117, 3) := by decide +kernel
theorem dX4_setForMembers_13 : decode cX4_setForMembers 13 = .ok (.ifCond .eq 7, 3) := by decide +kernel
theorem dX4_setForMembers_16 : decode cX4_setForMembers 16 = .ok (.aload_n 0, 1) := by decide +kernel
theorem dX4_setForMembers_17 : decode cX4_setForMembers 17 = .ok (.iload_n 3, 1) := by decide +kernel
theorem dX4_setForMembers_18 : decode cX4_setForMembers 18 = .ok (.iload_n 2, 1) := by decide +kernel
theorem dX4_setForMembers_19 : decode cX4_setForMembers 19 = .ok (.iastore, 1) := by decide +kernel
theorem dX4_setForMembers_20 : decode cX4_setForMembers 20 = .ok (.iinc 3 1, 3) := by decide +kernel
theorem dX4_setForMembers_23 : decode cX4_setForMembers 23 = .ok (.goto (-21), 3) := by decide +kernel
theorem dX4_setForMembers_26 : decode cX4_setForMembers 26 = .ok (.return_, 1) := by decide +kernel
theorem dX5_init_0 : decode cX5_init 0 = .ok (.aload_n 0, 1) := by decide +kernel
theorem dX5_init_1 : decode cX5_init 1 = .ok (.invokespecial 1, 3) := by decide +kernel
theorem dX5_init_4 : decode cX5_init 4 = .ok (.aload_n 0, 1) := by decide +kernel
theorem dX5_init_5 : decode cX5_init 5 = .ok (.bipush 92, 2) := by decide +kernel
theorem dX5_init_7 : decode cX5_init 7 = .ok (.newarray .int, 2) := by decide +kernel
theorem dX5_init_9 : decode cX5_init 9 = .ok (.putfield 7, 3) := by decide +kernel
theorem dX5_init_12 : decode cX5_init 12 = .ok (.aload_n 0, 1) := by decide +kernel
theorem dX5_init_13 : decode cX5_init 13 = .ok (.bipush 92, 2) := by decide +kernel
theorem dX5_init_15 : decode cX5_init 15 = .ok (.newarray .int, 2) := by decide +kernel
theorem dX5_init_17 : decode cX5_init 17 = .ok (.putfield 13, 3) := by decide +kernel
theorem dX5_init_20 : decode cX5_init 20 = .ok (.aload_n 0, 1) := by decide +kernel
theorem dX5_init_21 : decode cX5_init 21 = .ok (.sipush 552, 3) := by decide +kernel
theorem dX5_init_24 : decode cX5_init 24 = .ok (.newarray .int, 2) := by decide +kernel
theorem dX5_init_26 : decode cX5_init 26 = .ok (.putfield 16, 3) := by decide +kernel
theorem dX5_init_29 : decode cX5_init 29 = .ok (.aload_n 0, 1) := by decide +kernel
theorem dX5_init_30 : decode cX5_init 30 = .ok (.sipush 184, 3) := by decide +kernel
theorem dX5_init_33 : decode cX5_init 33 = .ok (.newarray .int, 2) := by decide +kernel
theorem dX5_init_35 : decode cX5_init 35 = .ok (.putfield 19, 3) := by decide +kernel
theorem dX5_init_38 : decode cX5_init 38 = .ok (.aload_n 0, 1) := by decide +kernel
theorem dX5_init_39 : decode cX5_init 39 = .ok (.iconst 2, 1) := by decide +kernel
theorem dX5_init_40 : decode cX5_init 40 = .ok (.newarray .int, 2) := by decide +kernel
theorem dX5_init_42 : decode cX5_init 42 = .ok (.putfield 22, 3) := by decide +kernel
theorem dX5_init_45 : decode cX5_init 45 = .ok (.aload_n 0, 1) := by decide +kernel
theorem dX5_init_46 : decode cX5_init 46 = .ok (.bipush 16, 2) := by decide +kernel
theorem dX5_init_48 : decode cX5_init 48 = .ok (.newarray .int, 2) := by decide +kernel
theorem dX5_init_50 : decode cX5_init 50 = .ok (.putfield 25, 3) := by decide +kernel
theorem dX5_init_53 : decode cX5_init 53 = .ok (.aload_n 0, 1) := by decide +kernel
theorem dX5_init_54 : decode cX5_init 54 = .ok (.bipush 80, 2) := by decide +kernel
theorem dX5_init_56 : decode cX5_init 56 = .ok (.newarray .int, 2) := by decide +kernel
theorem dX5_init_58 : decode cX5_init 58 = .ok (.putfield 28, 3) := by decide +kernel
theorem dX5_init_61 : decode cX5_init 61 = .ok (.aload_n 0, 1) := by decide +kernel
theorem dX5_init_62 : decode cX5_init 62 = .ok (.bipush 60, 2) := by decide +kernel
theorem dX5_init_64 : decode cX5_init 64 = .ok (.newarray .int, 2) := by decide +kernel
theorem dX5_init_66 : decode cX5_init 66 = .ok (.putfield 31, 3) := by decide +kernel
theorem dX5_init_69 : decode cX5_init 69 = .ok (.aload_n 0, 1) := by decide +kernel
theorem dX5_init_70 : decode cX5_init 70 = .ok (.getfield 7, 3) := by decide +kernel
theorem dX5_init_73 : decode cX5_init 73 = .ok (.iconst 0, 1) := by decide +kernel
theorem dX5_init_74 : decode cX5_init 74 = .ok (.bipush 8, 2) := by decide +kernel
theorem dX5_init_76 : decode cX5_init 76 = .ok (.iastore, 1) := by decide +kernel
theorem dX5_init_77 : decode cX5_init 77 = .ok (.return_, 1) := by decide +kernel
theorem dX5_in_0 : decode cX5_in 0 = .ok (.lload_n 0, 1) := by decide +kernel
theorem dX5_in_1 : decode cX5_in 1 = .ok (.lload_n 2, 1) := by decide +kernel
theorem dX5_in_2 : decode cX5_in 2 = .ok (.lcmp, 1) := by decide +kernel
theorem dX5_in_3 : decode cX5_in 3 = .ok (.ifCond .lt 14, 3) := by decide +kernel
theorem dX5_in_6 : decode cX5_in 6 = .ok (.lload_n 0, 1) := by decide +kernel
theorem dX5_in_7 : decode cX5_in 7 = .ok (.lload 4, 2) := by decide +kernel
theorem dX5_in_9 : decode cX5_in 9 = .ok (.lcmp, 1) := by decide +kernel
theorem dX5_in_10 : decode cX5_in 10 = .ok (.ifCond .gt 7, 3) := by decide +kernel
theorem dX5_in_13 : decode cX5_in 13 = .ok (.iconst 1, 1) := by decide +kernel
theorem dX5_in_14 : decode cX5_in 14 = .ok (.goto 4, 3) := by decide +kernel
theorem dX5_in_17 : decode cX5_in 17 = .ok (.iconst 0, 1) := by decide +kernel
theorem dX5_in_18 : decode cX5_in 18 = .ok (.ireturn, 1) := by decide +kernel
theorem dX5_keep_0 : decode cX5_keep 0 = .ok (.iconst 0, 1) := by decide +kernel
theorem dX5_keep_1 : decode cX5_keep 1 = .ok (.istore_n 1, 1) := by decide +kernel
theorem dX5_keep_2 : decode cX5_keep 2 = .ok (.iload_n 1, 1) := by decide +kernel
theorem dX5_keep_3 : decode cX5_keep 3 = .ok (.bipush 92, 2) := by decide +kernel
theorem dX5_keep_5 : decode cX5_keep 5 = .ok (.if_icmp .ge 21, 3) := by decide +kernel
theorem dX5_keep_8 : decode cX5_keep 8 = .ok (.aload_n 0, 1) := by decide +kernel
theorem dX5_keep_9 : decode cX5_keep 9 = .ok (.getfield 13, 3) := by decide +kernel
theorem dX5_keep_12 : decode cX5_keep 12 = .ok (.iload_n 1, 1) := by decide +kernel
theorem dX5_keep_13 : decode cX5_keep 13 = .ok (.aload_n 0, 1) := by decide +kernel
theorem dX5_keep_14 : decode cX5_keep 14 = .ok (.getfield 7, 3) := by decide +kernel
theorem dX5_keep_17 : decode cX5_keep 17 = .ok (.iload_n 1, 1) := by decide +kernel
theorem dX5_keep_18 : decode cX5_keep 18 = .ok (.iaload, 1) := by decide +kernel
theorem dX5_keep_19 : decode cX5_keep 19 = .ok (.iastore, 1) := by decide +kernel
theorem dX5_keep_20 : decode cX5_keep 20 = .ok (.iinc 1 1, 3) := by decide +kernel
theorem dX5_keep_23 : decode cX5_keep 23 = .ok (.goto (-21), 3) := by decide +kernel
theorem dX5_keep_26 : decode cX5_keep 26 = .ok (.return_, 1) := by decide +kernel
theorem dX5_changed_0 : decode cX5_changed 0 = .ok (.aload_n 0, 1) := by decide +kernel
theorem dX5_changed_1 : decode cX5_changed 1 = .ok (.getfield 34, 3) := by decide +kernel
theorem dX5_changed_4 : decode cX5_changed 4 = .ok (.bipush 6, 2) := by decide +kernel
theorem dX5_changed_6 : decode cX5_changed 6 = .ok (.if_icmp .ne 43, 3) := by decide +kernel
theorem dX5_changed_9 : decode cX5_changed 9 = .ok (.iconst 0, 1) := by decide +kernel
theorem dX5_changed_10 : decode cX5_changed 10 = .ok (.istore_n 2, 1) := by decide +kernel
theorem dX5_changed_11 : decode cX5_changed 11 = .ok (.iload_n 2, 1) := by decide +kernel
theorem dX5_changed_12 : decode cX5_changed 12 = .ok (.sipush 460, 3) := by decide +kernel
theorem dX5_changed_15 : decode cX5_changed 15 = .ok (.if_icmp .ge 24, 3) := by decide +kernel
theorem dX5_changed_18 : decode cX5_changed 18 = .ok (.aload_n 0, 1) := by decide +kernel
theorem dX5_changed_19 : decode cX5_changed 19 = .ok (.getfield 16, 3) := by decide +kernel
theorem dX5_changed_22 : decode cX5_changed 22 = .ok (.iload_n 2, 1) := by decide +kernel
theorem dX5_changed_23 : decode cX5_changed 23 = .ok (.aload_n 0, 1) := by decide +kernel
theorem dX5_changed_24 : decode cX5_changed 24 = .ok (.getfield 16, 3) := by decide +kernel
theorem dX5_changed_27 : decode cX5_changed 27 = .ok (.iload_n 2, 1) := by decide +kernel
theorem dX5_changed_28 : decode cX5_changed 28 = .ok (.bipush 92, 2) := by decide +kernel
theorem dX5_changed_30 : decode cX5_changed 30 = .ok (.iadd, 1) := by decide +kernel
theorem dX5_changed_31 : decode cX5_changed 31 = .ok (.iaload, 1) := by decide +kernel
theorem dX5_changed_32 : decode cX5_changed 32 = .ok (.iastore, 1) := by decide +kernel
theorem dX5_changed_33 : decode cX5_changed 33 = .ok (.iinc 2 1, 3) := by decide +kernel
theorem dX5_changed_36 : decode cX5_changed 36 = .ok (.goto (-25), 3) := by decide +kernel
theorem dX5_changed_39 : decode cX5_changed 39 = .ok (.aload_n 0, 1) := by decide +kernel
theorem dX5_changed_40 : decode cX5_changed 40 = .ok (.dup, 1) := by decide +kernel
theorem dX5_changed_41 : decode cX5_changed 41 = .ok (.getfield 34, 3) := by decide +kernel
theorem dX5_changed_44 : decode cX5_changed 44 = .ok (.iconst 1, 1) := by decide +kernel
theorem dX5_changed_45 : decode cX5_changed 45 = .ok (.isub, 1) := by decide +kernel
theorem dX5_changed_46 : decode cX5_changed 46 = .ok (.putfield 34, 3) := by decide +kernel
theorem dX5_changed_49 : decode cX5_changed 49 = .ok (.iconst 0, 1) := by decide +kernel
theorem dX5_changed_50 : decode cX5_changed 50 = .ok (.istore_n 2, 1) := by decide +kernel
theorem dX5_changed_51 : decode cX5_changed 51 = .ok (.iload_n 2, 1) := by decide +kernel
theorem dX5_changed_52 : decode cX5_changed 52 = .ok (.bipush 92, 2) := by decide +kernel
theorem dX5_changed_54 : decode cX5_changed 54 = .ok (.if_icmp .ge 29, 3) := by decide +kernel
theorem dX5_changed_57 : decode cX5_changed 57 = .ok (.aload_n 0, 1) := by decide +kernel
theorem dX5_changed_58 : decode cX5_changed 58 = .ok (.getfield 16, 3) := by decide +kernel
theorem dX5_changed_61 : decode cX5_changed 61 = .ok (.bipush 92, 2) := by decide +kernel
theorem dX5_changed_63 : decode cX5_changed 63 = .ok (.aload_n 0, 1) := by decide +kernel
theorem dX5_changed_64 : decode cX5_changed 64 = .ok (.getfield 34, 3) := by decide +kernel
theorem dX5_changed_67 : decode cX5_changed 67 = .ok (.imul, 1) := by decide +kernel
theorem dX5_changed_68 : decode cX5_changed 68 = .ok (.iload_n 2, 1) := by decide +kernel
theorem dX5_changed_69 : decode cX5_changed 69 = .ok (.iadd, 1) := by decide +kernel
theorem dX5_changed_70 : decode cX5_changed 70 = .ok (.aload_n 0, 1) := by decide +kernel
theorem dX5_changed_71 : decode cX5_changed 71 = .ok (.getfield 13, 3) := by decide +kernel
theorem dX5_changed_74 : decode cX5_changed 74 = .ok (.iload_n 2, 1) := by decide +kernel
theorem dX5_changed_75 : decode cX5_changed 75 = .ok (.iaload, 1) := by decide +kernel
theorem dX5_changed_76 : decode cX5_changed 76 = .ok (.iastore, 1) := by decide +kernel
theorem dX5_changed_77 : decode cX5_changed 77 = .ok (.iinc 2 1, 3) := by decide +kernel
theorem dX5_changed_80 : decode cX5_changed 80 = .ok (.goto (-29), 3) := by decide +kernel
theorem dX5_changed_83 : decode cX5_changed 83 = .ok (.aload_n 0, 1) := by decide +kernel
theorem dX5_changed_84 : decode cX5_changed 84 = .ok (.dup, 1) := by decide +kernel
theorem dX5_changed_85 : decode cX5_changed 85 = .ok (.getfield 34, 3) := by decide +kernel
theorem dX5_changed_88 : decode cX5_changed 88 = .ok (.iconst 1, 1) := by decide +kernel
theorem dX5_changed_89 : decode cX5_changed 89 = .ok (.iadd, 1) := by decide +kernel
theorem dX5_changed_90 : decode cX5_changed 90 = .ok (.putfield 34, 3) := by decide +kernel
theorem dX5_changed_93 : decode cX5_changed 93 = .ok (.iload_n 1, 1) := by decide +kernel
theorem dX5_changed_94 : decode cX5_changed 94 = .ok (.ireturn, 1) := by decide +kernel
theorem dX5_bits_0 : decode cX5_bits 0 = .ok (.iconst 0, 1) := by decide +kernel
theorem dX5_bits_1 : decode cX5_bits 1 = .ok (.istore_n 1, 1) := by decide +kernel
theorem dX5_bits_2 : decode cX5_bits 2 = .ok (.iload_n 0, 1) := by decide +kernel
theorem dX5_bits_3 : decode cX5_bits 3 = .ok (.istore_n 2, 1) := by decide +kernel
theorem dX5_bits_4 : decode cX5_bits 4 = .ok (.iload_n 2, 1) := by decide +kernel
theorem dX5_bits_5 : decode cX5_bits 5 = .ok (.ifCond .eq 15, 3) := by decide +kernel
theorem dX5_bits_8 : decode cX5_bits 8 = .ok (.iinc 1 1, 3) := by decide +kernel
theorem dX5_bits_11 : decode cX5_bits 11 = .ok (.iload_n 2, 1) := by decide +kernel
theorem dX5_bits_12 : decode cX5_bits 12 = .ok (.iload_n 2, 1) := by decide +kernel
theorem dX5_bits_13 : decode cX5_bits 13 = .ok (.iconst 1, 1) := by decide +kernel
theorem dX5_bits_14 : decode cX5_bits 14 = .ok (.isub, 1) := by decide +kernel
theorem dX5_bits_15 : decode cX5_bits 15 = .ok (.iand, 1) := by decide +kernel
theorem dX5_bits_16 : decode cX5_bits 16 = .ok (.istore_n 2, 1) := by decide +kernel
theorem dX5_bits_17 : decode cX5_bits 17 = .ok (.goto (-13), 3) := by decide +kernel
theorem dX5_bits_20 : decode cX5_bits 20 = .ok (.iload_n 1, 1) := by decide +kernel
theorem dX5_bits_21 : decode cX5_bits 21 = .ok (.ireturn, 1) := by decide +kernel
theorem dX5_isSquare_0 : decode cX5_isSquare 0 = .ok (.iload_n 1, 1) := by decide +kernel
theorem dX5_isSquare_1 : decode cX5_isSquare 1 = .ok (.i2l, 1) := by decide +kernel
theorem dX5_isSquare_2 : decode cX5_isSquare 2 = .ok (.lconst 0, 1) := by decide +kernel
theorem dX5_isSquare_3 : decode cX5_isSquare 3 = .ok (.aload_n 0, 1) := by decide +kernel
theorem dX5_isSquare_4 : decode cX5_isSquare 4 = .ok (.getfield 7, 3) := by decide +kernel
theorem dX5_isSquare_7 : decode cX5_isSquare 7 = .ok (.iconst 0, 1) := by decide +kernel
theorem dX5_isSquare_8 : decode cX5_isSquare 8 = .ok (.iaload, 1) := by decide +kernel
theorem dX5_isSquare_9 : decode cX5_isSquare 9 = .ok (.i2l, 1) := by decide +kernel
theorem dX5_isSquare_10 : decode cX5_isSquare 10 = .ok (.lconst 1, 1) := by decide +kernel
theorem dX5_isSquare_11 : decode cX5_isSquare 11 = .ok (.lsub, 1) := by decide +kernel
theorem dX5_isSquare_12 : decode cX5_isSquare 12 = .ok (.invokestatic 38, 3) := by decide +kernel
theorem dX5_isSquare_15 : decode cX5_isSquare 15 = .ok (.ireturn, 1) := by decide +kernel
theorem dX5_isRoad_0 : decode cX5_isRoad 0 = .ok (.iload_n 1, 1) := by decide +kernel
theorem dX5_isRoad_1 : decode cX5_isRoad 1 = .ok (.i2l, 1) := by decide +kernel
theorem dX5_isRoad_2 : decode cX5_isRoad 2 = .ok (.lconst 0, 1) := by decide +kernel
theorem dX5_isRoad_3 : decode cX5_isRoad 3 = .ok (.aload_n 0, 1) := by decide +kernel
theorem dX5_isRoad_4 : decode cX5_isRoad 4 = .ok (.getfield 7, 3) := by decide +kernel
theorem dX5_isRoad_7 : decode cX5_isRoad 7 = .ok (.iconst 1, 1) := by decide +kernel
theorem dX5_isRoad_8 : decode cX5_isRoad 8 = .ok (.iaload, 1) := by decide +kernel
theorem dX5_isRoad_9 : decode cX5_isRoad 9 = .ok (.i2l, 1) := by decide +kernel
theorem dX5_isRoad_10 : decode cX5_isRoad 10 = .ok (.lconst 1, 1) := by decide +kernel
theorem dX5_isRoad_11 : decode cX5_isRoad 11 = .ok (.lsub, 1) := by decide +kernel
theorem dX5_isRoad_12 : decode cX5_isRoad 12 = .ok (.invokestatic 38, 3) := by decide +kernel
theorem dX5_isRoad_15 : decode cX5_isRoad 15 = .ok (.ireturn, 1) := by decide +kernel
theorem dX5_ends_0 : decode cX5_ends 0 = .ok (.iconst 1, 1) := by decide +kernel
theorem dX5_ends_1 : decode cX5_ends 1 = .ok (.aload_n 0, 1) := by decide +kernel
theorem dX5_ends_2 : decode cX5_ends 2 = .ok (.getfield 7, 3) := by decide +kernel
theorem dX5_ends_5 : decode cX5_ends 5 = .ok (.iconst 2, 1) := by decide +kernel
theorem dX5_ends_6 : decode cX5_ends 6 = .ok (.iload_n 1, 1) := by decide +kernel
theorem dX5_ends_7 : decode cX5_ends 7 = .ok (.iadd, 1) := by decide +kernel
theorem dX5_ends_8 : decode cX5_ends 8 = .ok (.iaload, 1) := by decide +kernel
theorem dX5_ends_9 : decode cX5_ends 9 = .ok (.ishl, 1) := by decide +kernel
theorem dX5_ends_10 : decode cX5_ends 10 = .ok (.iconst 1, 1) := by decide +kernel
theorem dX5_ends_11 : decode cX5_ends 11 = .ok (.aload_n 0, 1) := by decide +kernel
theorem dX5_ends_12 : decode cX5_ends 12 = .ok (.getfield 7, 3) := by decide +kernel
theorem dX5_ends_15 : decode cX5_ends 15 = .ok (.bipush 32, 2) := by decide +kernel
theorem dX5_ends_17 : decode cX5_ends 17 = .ok (.iload_n 1, 1) := by decide +kernel
theorem dX5_ends_18 : decode cX5_ends 18 = .ok (.iadd, 1) := by decide +kernel
theorem dX5_ends_19 : decode cX5_ends 19 = .ok (.iaload, 1) := by decide +kernel
theorem dX5_ends_20 : decode cX5_ends 20 = .ok (.ishl, 1) := by decide +kernel
theorem dX5_ends_21 : decode cX5_ends 21 = .ok (.ior, 1) := by decide +kernel
theorem dX5_ends_22 : decode cX5_ends 22 = .ok (.ireturn, 1) := by decide +kernel
theorem dX5_reach_0 : decode cX5_reach 0 = .ok (.iconst 1, 1) := by decide +kernel
theorem dX5_reach_1 : decode cX5_reach 1 = .ok (.iload_n 1, 1) := by decide +kernel
theorem dX5_reach_2 : decode cX5_reach 2 = .ok (.ishl, 1) := by decide +kernel
theorem dX5_reach_3 : decode cX5_reach 3 = .ok (.istore 4, 2) := by decide +kernel
theorem dX5_reach_5 : decode cX5_reach 5 = .ok (.iconst 1, 1) := by decide +kernel
theorem dX5_reach_6 : decode cX5_reach 6 = .ok (.istore 5, 2) := by decide +kernel
theorem dX5_reach_8 : decode cX5_reach 8 = .ok (.iload 5, 2) := by decide +kernel
theorem dX5_reach_10 : decode cX5_reach 10 = .ok (.ifCond .eq 119, 3) := by decide +kernel
theorem dX5_reach_13 : decode cX5_reach 13 = .ok (.iload 4, 2) := by decide +kernel
theorem dX5_reach_15 : decode cX5_reach 15 = .ok (.istore 6, 2) := by decide +kernel
theorem dX5_reach_17 : decode cX5_reach 17 = .ok (.iconst 0, 1) := by decide +kernel
theorem dX5_reach_18 : decode cX5_reach 18 = .ok (.istore 7, 2) := by decide +kernel
theorem dX5_reach_20 : decode cX5_reach 20 = .ok (.iload 7, 2) := by decide +kernel
theorem dX5_reach_22 : decode cX5_reach 22 = .ok (.aload_n 0, 1) := by decide +kernel
theorem dX5_reach_23 : decode cX5_reach 23 = .ok (.getfield 7, 3) := by decide +kernel
theorem dX5_reach_26 : decode cX5_reach 26 = .ok (.iconst 1, 1) := by decide +kernel
theorem dX5_reach_27 : decode cX5_reach 27 = .ok (.iaload, 1) := by decide +kernel
theorem dX5_reach_28 : decode cX5_reach 28 = .ok (.if_icmp .ge 84, 3) := by decide +kernel
theorem dX5_reach_31 : decode cX5_reach 31 = .ok (.iload_n 2, 1) := by decide +kernel
theorem dX5_reach_32 : decode cX5_reach 32 = .ok (.iload 7, 2) := by decide +kernel
theorem dX5_reach_34 : decode cX5_reach 34 = .ok (.ishr, 1) := by decide +kernel
theorem dX5_reach_35 : decode cX5_reach 35 = .ok (.iconst 1, 1) := by decide +kernel
theorem dX5_reach_36 : decode cX5_reach 36 = .ok (.iand, 1) := by decide +kernel
theorem dX5_reach_37 : decode cX5_reach 37 = .ok (.ifCond .ne 34, 3) := by decide +kernel
theorem dX5_reach_40 : decode cX5_reach 40 = .ok (.aload_n 0, 1) := by decide +kernel
theorem dX5_reach_41 : decode cX5_reach 41 = .ok (.getfield 7, 3) := by decide +kernel
theorem dX5_reach_44 : decode cX5_reach 44 = .ok (.iconst 2, 1) := by decide +kernel
theorem dX5_reach_45 : decode cX5_reach 45 = .ok (.iload 7, 2) := by decide +kernel
theorem dX5_reach_47 : decode cX5_reach 47 = .ok (.iadd, 1) := by decide +kernel
theorem dX5_reach_48 : decode cX5_reach 48 = .ok (.iaload, 1) := by decide +kernel
theorem dX5_reach_49 : decode cX5_reach 49 = .ok (.iload_n 3, 1) := by decide +kernel
theorem dX5_reach_50 : decode cX5_reach 50 = .ok (.if_icmp .eq 21, 3) := by decide +kernel
theorem dX5_reach_53 : decode cX5_reach 53 = .ok (.aload_n 0, 1) := by decide +kernel
theorem dX5_reach_54 : decode cX5_reach 54 = .ok (.getfield 7, 3) := by decide +kernel
theorem dX5_reach_57 : decode cX5_reach 57 = .ok (.bipush 32, 2) := by decide +kernel
theorem dX5_reach_59 : decode cX5_reach 59 = .ok (.iload 7, 2) := by decide +kernel
theorem dX5_reach_61 : decode cX5_reach 61 = .ok (.iadd, 1) := by decide +kernel
theorem dX5_reach_62 : decode cX5_reach 62 = .ok (.iaload, 1) := by decide +kernel
theorem dX5_reach_63 : decode cX5_reach 63 = .ok (.iload_n 3, 1) := by decide +kernel
theorem dX5_reach_64 : decode cX5_reach 64 = .ok (.if_icmp .eq 7, 3) := by decide +kernel
theorem dX5_reach_67 : decode cX5_reach 67 = .ok (.iconst 1, 1) := by decide +kernel
theorem dX5_reach_68 : decode cX5_reach 68 = .ok (.goto 4, 3) := by decide +kernel
theorem dX5_reach_71 : decode cX5_reach 71 = .ok (.iconst 0, 1) := by decide +kernel
theorem dX5_reach_72 : decode cX5_reach 72 = .ok (.istore 8, 2) := by decide +kernel
theorem dX5_reach_74 : decode cX5_reach 74 = .ok (.iload 4, 2) := by decide +kernel
theorem dX5_reach_76 : decode cX5_reach 76 = .ok (.iload 8, 2) := by decide +kernel
theorem dX5_reach_78 : decode cX5_reach 78 = .ok (.ifCond .eq 24, 3) := by decide +kernel
theorem dX5_reach_81 : decode cX5_reach 81 = .ok (.iload 4, 2) := by decide +kernel
theorem dX5_reach_83 : decode cX5_reach 83 = .ok (.aload_n 0, 1) := by decide +kernel
theorem dX5_reach_84 : decode cX5_reach 84 = .ok (.iload 7, 2) := by decide +kernel
theorem dX5_reach_86 : decode cX5_reach 86 = .ok (.invokevirtual 42, 3) := by decide +kernel
theorem dX5_reach_89 : decode cX5_reach 89 = .ok (.iand, 1) := by decide +kernel
theorem dX5_reach_90 : decode cX5_reach 90 = .ok (.ifCond .eq 12, 3) := by decide +kernel
theorem dX5_reach_93 : decode cX5_reach 93 = .ok (.aload_n 0, 1) := by decide +kernel
theorem dX5_reach_94 : decode cX5_reach 94 = .ok (.iload 7, 2) := by decide +kernel
theorem dX5_reach_96 : decode cX5_reach 96 = .ok (.invokevirtual 42, 3) := by decide +kernel
theorem dX5_reach_99 : decode cX5_reach 99 = .ok (.goto 4, 3) := by decide +kernel
theorem dX5_reach_102 : decode cX5_reach 102 = .ok (.iconst 0, 1) := by decide +kernel
theorem dX5_reach_103 : decode cX5_reach 103 = .ok (.ior, 1) := by decide +kernel
theorem dX5_reach_104 : decode cX5_reach 104 = .ok (.istore 4, 2) := by decide +kernel
theorem dX5_reach_106 : decode cX5_reach 106 = .ok (.iinc 7 1, 3) := by decide +kernel
theorem dX5_reach_109 : decode cX5_reach 109 = .ok (.goto (-89), 3) := by decide +kernel
theorem dX5_reach_112 : decode cX5_reach 112 = .ok (.iload 4, 2) := by decide +kernel
theorem dX5_reach_114 : decode cX5_reach 114 = .ok (.iload 6, 2) := by decide +kernel
theorem dX5_reach_116 : decode cX5_reach 116 = .ok (.if_icmp .eq 7, 3) := by decide +kernel
theorem dX5_reach_119 : decode cX5_reach 119 = .ok (.iconst 1, 1) := by decide +kernel
theorem dX5_reach_120 : decode cX5_reach 120 = .ok (.goto 4, 3) := by decide +kernel
theorem dX5_reach_123 : decode cX5_reach 123 = .ok (.iconst 0, 1) := by decide +kernel
theorem dX5_reach_124 : decode cX5_reach 124 = .ok (.istore 5, 2) := by decide +kernel
theorem dX5_reach_126 : decode cX5_reach 126 = .ok (.goto (-118), 3) := by decide +kernel
theorem dX5_reach_129 : decode cX5_reach 129 = .ok (.iload 4, 2) := by decide +kernel
theorem dX5_reach_131 : decode cX5_reach 131 = .ok (.ireturn, 1) := by decide +kernel
theorem dX5_pieceOf_0 : decode cX5_pieceOf 0 = .ok (.aload_n 0, 1) := by decide +kernel
theorem dX5_pieceOf_1 : decode cX5_pieceOf 1 = .ok (.iload_n 1, 1) := by decide +kernel
theorem dX5_pieceOf_2 : decode cX5_pieceOf 2 = .ok (.iconst 0, 1) := by decide +kernel
theorem dX5_pieceOf_3 : decode cX5_pieceOf 3 = .ok (.bipush (-6), 2) := by decide +kernel
theorem dX5_pieceOf_5 : decode cX5_pieceOf 5 = .ok (.invokevirtual 46, 3) := by decide +kernel
theorem dX5_pieceOf_8 : decode cX5_pieceOf 8 = .ok (.ireturn, 1) := by decide +kernel
theorem dX5_piecesWithout_0 : decode cX5_piecesWithout 0 = .ok (.iconst 0, 1) := by decide +kernel
theorem dX5_piecesWithout_1 : decode cX5_piecesWithout 1 = .ok (.istore_n 3, 1) := by decide +kernel
theorem dX5_piecesWithout_2 : decode cX5_piecesWithout 2 = .ok (.iconst 0, 1) := by decide +kernel
theorem dX5_piecesWithout_3 : decode cX5_piecesWithout 3 = .ok (.istore 4, 2) := by decide +kernel
theorem dX5_piecesWithout_5 : decode cX5_piecesWithout 5 = .ok (.iload 4, 2) := by decide +kernel
theorem dX5_piecesWithout_7 : decode cX5_piecesWithout 7 = .ok (.aload_n 0, 1) := by decide +kernel
theorem dX5_piecesWithout_8 : decode cX5_piecesWithout 8 = .ok (.getfield 7, 3) := by decide +kernel
theorem dX5_piecesWithout_11 : decode cX5_piecesWithout 11 = .ok (.iconst 0, 1) := by decide +kernel
theorem dX5_piecesWithout_12 : decode cX5_piecesWithout 12 = .ok (.iaload, 1) := by decide +kernel
theorem dX5_piecesWithout_13 : decode cX5_piecesWithout 13 = .ok (.if_icmp .ge 41, 3) := by decide +kernel
theorem dX5_piecesWithout_16 : decode cX5_piecesWithout 16 = .ok (.iload_n 3, 1) := by decide +kernel
theorem dX5_piecesWithout_17 : decode cX5_piecesWithout 17 = .ok (.iload 4, 2) := by decide +kernel
theorem dX5_piecesWithout_19 : decode cX5_piecesWithout 19 = .ok (.iload_n 2, 1) := by decide +kernel
theorem dX5_piecesWithout_20 : decode cX5_piecesWithout 20 = .ok (.if_icmp .eq 25, 3) := by decide +kernel
theorem dX5_piecesWithout_23 : decode cX5_piecesWithout 23 = .ok (.aload_n 0, 1) := by decide +kernel
theorem dX5_piecesWithout_24 : decode cX5_piecesWithout 24 = .ok (.iload 4, 2) := by decide +kernel
theorem dX5_piecesWithout_26 : decode cX5_piecesWithout 26 = .ok (.iload_n 1, 1) := by decide +kernel
theorem dX5_piecesWithout_27 : decode cX5_piecesWithout 27 = .ok (.iload_n 2, 1) := by decide +kernel
theorem dX5_piecesWithout_28 : decode cX5_piecesWithout 28 = .ok (.invokevirtual 46, 3) := by decide +kernel
theorem dX5_piecesWithout_31 : decode cX5_piecesWithout 31 = .ok (.iconst 1, 1) := by decide +kernel
theorem dX5_piecesWithout_32 : decode cX5_piecesWithout 32 = .ok (.iload 4, 2) := by decide +kernel
theorem dX5_piecesWithout_34 : decode cX5_piecesWithout 34 = .ok (.ishl, 1) := by decide +kernel
theorem dX5_piecesWithout_35 : decode cX5_piecesWithout 35 = .ok (.iconst 1, 1) := by decide +kernel
theorem dX5_piecesWithout_36 : decode cX5_piecesWithout 36 = .ok (.isub, 1) := by decide +kernel
theorem dX5_piecesWithout_37 : decode cX5_piecesWithout 37 = .ok (.iand, 1) := by decide +kernel
theorem dX5_piecesWithout_38 : decode cX5_piecesWithout 38 = .ok (.ifCond .ne 7, 3) := by decide +kernel
theorem dX5_piecesWithout_41 : decode cX5_piecesWithout 41 = .ok (.iconst 1, 1) := by decide +kernel
theorem dX5_piecesWithout_42 : decode cX5_piecesWithout 42 = .ok (.goto 4, 3) := by decide +kernel
theorem dX5_piecesWithout_45 : decode cX5_piecesWithout 45 = .ok (.iconst 0, 1) := by decide +kernel
theorem dX5_piecesWithout_46 : decode cX5_piecesWithout 46 = .ok (.iadd, 1) := by decide +kernel
theorem dX5_piecesWithout_47 : decode cX5_piecesWithout 47 = .ok (.istore_n 3, 1) := by decide +kernel
theorem dX5_piecesWithout_48 : decode cX5_piecesWithout 48 = .ok (.iinc 4 1, 3) := by decide +kernel
theorem dX5_piecesWithout_51 : decode cX5_piecesWithout 51 = .ok (.goto (-46), 3) := by decide +kernel
theorem dX5_piecesWithout_54 : decode cX5_piecesWithout 54 = .ok (.iload_n 3, 1) := by decide +kernel
theorem dX5_piecesWithout_55 : decode cX5_piecesWithout 55 = .ok (.ireturn, 1) := by decide +kernel
theorem dX5_pieces_0 : decode cX5_pieces 0 = .ok (.aload_n 0, 1) := by decide +kernel
theorem dX5_pieces_1 : decode cX5_pieces 1 = .ok (.iconst 0, 1) := by decide +kernel
theorem dX5_pieces_2 : decode cX5_pieces 2 = .ok (.bipush (-6), 2) := by decide +kernel
theorem dX5_pieces_4 : decode cX5_pieces 4 = .ok (.invokevirtual 50, 3) := by decide +kernel
theorem dX5_pieces_7 : decode cX5_pieces 7 = .ok (.ireturn, 1) := by decide +kernel
theorem dX5_parts_0 : decode cX5_parts 0 = .ok (.aload_n 0, 1) := by decide +kernel
theorem dX5_parts_1 : decode cX5_parts 1 = .ok (.aload_n 0, 1) := by decide +kernel
theorem dX5_parts_2 : decode cX5_parts 2 = .ok (.getfield 7, 3) := by decide +kernel
theorem dX5_parts_5 : decode cX5_parts 5 = .ok (.iconst 2, 1) := by decide +kernel
theorem dX5_parts_6 : decode cX5_parts 6 = .ok (.iload_n 1, 1) := by decide +kernel
theorem dX5_parts_7 : decode cX5_parts 7 = .ok (.iadd, 1) := by decide +kernel
theorem dX5_parts_8 : decode cX5_parts 8 = .ok (.iaload, 1) := by decide +kernel
theorem dX5_parts_9 : decode cX5_parts 9 = .ok (.iconst 1, 1) := by decide +kernel
theorem dX5_parts_10 : decode cX5_parts 10 = .ok (.iload_n 1, 1) := by decide +kernel
theorem dX5_parts_11 : decode cX5_parts 11 = .ok (.ishl, 1) := by decide +kernel
theorem dX5_parts_12 : decode cX5_parts 12 = .ok (.bipush (-6), 2) := by decide +kernel
theorem dX5_parts_14 : decode cX5_parts 14 = .ok (.invokevirtual 46, 3) := by decide +kernel
theorem dX5_parts_17 : decode cX5_parts 17 = .ok (.aload_n 0, 1) := by decide +kernel
theorem dX5_parts_18 : decode cX5_parts 18 = .ok (.getfield 7, 3) := by decide +kernel
theorem dX5_parts_21 : decode cX5_parts 21 = .ok (.bipush 32, 2) := by decide +kernel
theorem dX5_parts_23 : decode cX5_parts 23 = .ok (.iload_n 1, 1) := by decide +kernel
theorem dX5_parts_24 : decode cX5_parts 24 = .ok (.iadd, 1) := by decide +kernel
theorem dX5_parts_25 : decode cX5_parts 25 = .ok (.iaload, 1) := by decide +kernel
theorem dX5_parts_26 : decode cX5_parts 26 = .ok (.ishr, 1) := by decide +kernel
theorem dX5_parts_27 : decode cX5_parts 27 = .ok (.iconst 1, 1) := by decide +kernel
theorem dX5_parts_28 : decode cX5_parts 28 = .ok (.iand, 1) := by decide +kernel
theorem dX5_parts_29 : decode cX5_parts 29 = .ok (.ifCond .ne 7, 3) := by decide +kernel
theorem dX5_parts_32 : decode cX5_parts 32 = .ok (.iconst 1, 1) := by decide +kernel
theorem dX5_parts_33 : decode cX5_parts 33 = .ok (.goto 4, 3) := by decide +kernel
theorem dX5_parts_36 : decode cX5_parts 36 = .ok (.iconst 0, 1) := by decide +kernel
theorem dX5_parts_37 : decode cX5_parts 37 = .ok (.ireturn, 1) := by decide +kernel
theorem dX5_parting_0 : decode cX5_parting 0 = .ok (.iconst 0, 1) := by decide +kernel
theorem dX5_parting_1 : decode cX5_parting 1 = .ok (.istore_n 1, 1) := by decide +kernel
theorem dX5_parting_2 : decode cX5_parting 2 = .ok (.iconst 0, 1) := by decide +kernel
theorem dX5_parting_3 : decode cX5_parting 3 = .ok (.istore_n 2, 1) := by decide +kernel
theorem dX5_parting_4 : decode cX5_parting 4 = .ok (.iload_n 2, 1) := by decide +kernel
theorem dX5_parting_5 : decode cX5_parting 5 = .ok (.aload_n 0, 1) := by decide +kernel
theorem dX5_parting_6 : decode cX5_parting 6 = .ok (.getfield 7, 3) := by decide +kernel
theorem dX5_parting_9 : decode cX5_parting 9 = .ok (.iconst 1, 1) := by decide +kernel
theorem dX5_parting_10 : decode cX5_parting 10 = .ok (.iaload, 1) := by decide +kernel
theorem dX5_parting_11 : decode cX5_parting 11 = .ok (.if_icmp .ge 27, 3) := by decide +kernel
theorem dX5_parting_14 : decode cX5_parting 14 = .ok (.iload_n 1, 1) := by decide +kernel
theorem dX5_parting_15 : decode cX5_parting 15 = .ok (.aload_n 0, 1) := by decide +kernel
theorem dX5_parting_16 : decode cX5_parting 16 = .ok (.iload_n 2, 1) := by decide +kernel
theorem dX5_parting_17 : decode cX5_parting 17 = .ok (.invokevirtual 54, 3) := by decide +kernel
theorem dX5_parting_20 : decode cX5_parting 20 = .ok (.ifCond .eq 9, 3) := by decide +kernel
theorem dX5_parting_23 : decode cX5_parting 23 = .ok (.iconst 1, 1) := by decide +kernel
theorem dX5_parting_24 : decode cX5_parting 24 = .ok (.iload_n 2, 1) := by decide +kernel
theorem dX5_parting_25 : decode cX5_parting 25 = .ok (.ishl, 1) := by decide +kernel
theorem dX5_parting_26 : decode cX5_parting 26 = .ok (.goto 4, 3) := by decide +kernel
theorem dX5_parting_29 : decode cX5_parting 29 = .ok (.iconst 0, 1) := by decide +kernel
theorem dX5_parting_30 : decode cX5_parting 30 = .ok (.ior, 1) := by decide +kernel
theorem dX5_parting_31 : decode cX5_parting 31 = .ok (.istore_n 1, 1) := by decide +kernel
theorem dX5_parting_32 : decode cX5_parting 32 = .ok (.iinc 2 1, 3) := by decide +kernel
theorem dX5_parting_35 : decode cX5_parting 35 = .ok (.goto (-31), 3) := by decide +kernel
theorem dX5_parting_38 : decode cX5_parting 38 = .ok (.iload_n 1, 1) := by decide +kernel
theorem dX5_parting_39 : decode cX5_parting 39 = .ok (.ireturn, 1) := by decide +kernel
theorem dX5_pairsLost_0 : decode cX5_pairsLost 0 = .ok (.aload_n 0, 1) := by decide +kernel
theorem dX5_pairsLost_1 : decode cX5_pairsLost 1 = .ok (.iload_n 1, 1) := by decide +kernel
theorem dX5_pairsLost_2 : decode cX5_pairsLost 2 = .ok (.invokevirtual 54, 3) := by decide +kernel
theorem dX5_pairsLost_5 : decode cX5_pairsLost 5 = .ok (.ifCond .eq 48, 3) := by decide +kernel
theorem dX5_pairsLost_8 : decode cX5_pairsLost 8 = .ok (.aload_n 0, 1) := by decide +kernel
theorem dX5_pairsLost_9 : decode cX5_pairsLost 9 = .ok (.aload_n 0, 1) := by decide +kernel
theorem dX5_pairsLost_10 : decode cX5_pairsLost 10 = .ok (.getfield 7, 3) := by decide +kernel
theorem dX5_pairsLost_13 : decode cX5_pairsLost 13 = .ok (.iconst 2, 1) := by decide +kernel
theorem dX5_pairsLost_14 : decode cX5_pairsLost 14 = .ok (.iload_n 1, 1) := by decide +kernel
theorem dX5_pairsLost_15 : decode cX5_pairsLost 15 = .ok (.iadd, 1) := by decide +kernel
theorem dX5_pairsLost_16 : decode cX5_pairsLost 16 = .ok (.iaload, 1) := by decide +kernel
theorem dX5_pairsLost_17 : decode cX5_pairsLost 17 = .ok (.iconst 1, 1) := by decide +kernel
theorem dX5_pairsLost_18 : decode cX5_pairsLost 18 = .ok (.iload_n 1, 1) := by decide +kernel
theorem dX5_pairsLost_19 : decode cX5_pairsLost 19 = .ok (.ishl, 1) := by decide +kernel
theorem dX5_pairsLost_20 : decode cX5_pairsLost 20 = .ok (.bipush (-6), 2) := by decide +kernel
theorem dX5_pairsLost_22 : decode cX5_pairsLost 22 = .ok (.invokevirtual 46, 3) := by decide +kernel
theorem dX5_pairsLost_25 : decode cX5_pairsLost 25 = .ok (.invokestatic 58, 3) := by decide +kernel
theorem dX5_pairsLost_28 : decode cX5_pairsLost 28 = .ok (.aload_n 0, 1) := by decide +kernel
theorem dX5_pairsLost_29 : decode cX5_pairsLost 29 = .ok (.aload_n 0, 1) := by decide +kernel
theorem dX5_pairsLost_30 : decode cX5_pairsLost 30 = .ok (.getfield 7, 3) := by decide +kernel
theorem dX5_pairsLost_33 : decode cX5_pairsLost 33 = .ok (.bipush 32, 2) := by decide +kernel
theorem dX5_pairsLost_35 : decode cX5_pairsLost 35 = .ok (.iload_n 1, 1) := by decide +kernel
theorem dX5_pairsLost_36 : decode cX5_pairsLost 36 = .ok (.iadd, 1) := by decide +kernel
theorem dX5_pairsLost_37 : decode cX5_pairsLost 37 = .ok (.iaload, 1) := by decide +kernel
theorem dX5_pairsLost_38 : decode cX5_pairsLost 38 = .ok (.iconst 1, 1) := by decide +kernel
theorem dX5_pairsLost_39 : decode cX5_pairsLost 39 = .ok (.iload_n 1, 1) := by decide +kernel
theorem dX5_pairsLost_40 : decode cX5_pairsLost 40 = .ok (.ishl, 1) := by decide +kernel
theorem dX5_pairsLost_41 : decode cX5_pairsLost 41 = .ok (.bipush (-6), 2) := by decide +kernel
theorem dX5_pairsLost_43 : decode cX5_pairsLost 43 = .ok (.invokevirtual 46, 3) := by decide +kernel
theorem dX5_pairsLost_46 : decode cX5_pairsLost 46 = .ok (.invokestatic 58, 3) := by decide +kernel
theorem dX5_pairsLost_49 : decode cX5_pairsLost 49 = .ok (.imul, 1) := by decide +kernel
theorem dX5_pairsLost_50 : decode cX5_pairsLost 50 = .ok (.goto 4, 3) := by decide +kernel
theorem dX5_pairsLost_53 : decode cX5_pairsLost 53 = .ok (.iconst 0, 1) := by decide +kernel
theorem dX5_pairsLost_54 : decode cX5_pairsLost 54 = .ok (.ireturn, 1) := by decide +kernel
theorem dX5_morePieces_0 : decode cX5_morePieces 0 = .ok (.aload_n 0, 1) := by decide +kernel
theorem dX5_morePieces_1 : decode cX5_morePieces 1 = .ok (.invokevirtual 61, 3) := by decide +kernel
theorem dX5_morePieces_4 : decode cX5_morePieces 4 = .ok (.aload_n 0, 1) := by decide +kernel
theorem dX5_morePieces_5 : decode cX5_morePieces 5 = .ok (.iload_n 1, 1) := by decide +kernel
theorem dX5_morePieces_6 : decode cX5_morePieces 6 = .ok (.invokevirtual 65, 3) := by decide +kernel
theorem dX5_morePieces_9 : decode cX5_morePieces 9 = .ok (.iconst 1, 1) := by decide +kernel
theorem dX5_morePieces_10 : decode cX5_morePieces 10 = .ok (.iload_n 1, 1) := by decide +kernel
theorem dX5_morePieces_11 : decode cX5_morePieces 11 = .ok (.ishl, 1) := by decide +kernel
theorem dX5_morePieces_12 : decode cX5_morePieces 12 = .ok (.if_icmp .ne 7, 3) := by decide +kernel
theorem dX5_morePieces_15 : decode cX5_morePieces 15 = .ok (.iconst 1, 1) := by decide +kernel
theorem dX5_morePieces_16 : decode cX5_morePieces 16 = .ok (.goto 4, 3) := by decide +kernel
theorem dX5_morePieces_19 : decode cX5_morePieces 19 = .ok (.iconst 0, 1) := by decide +kernel
theorem dX5_morePieces_20 : decode cX5_morePieces 20 = .ok (.isub, 1) := by decide +kernel
theorem dX5_morePieces_21 : decode cX5_morePieces 21 = .ok (.istore_n 2, 1) := by decide +kernel
theorem dX5_morePieces_22 : decode cX5_morePieces 22 = .ok (.aload_n 0, 1) := by decide +kernel
theorem dX5_morePieces_23 : decode cX5_morePieces 23 = .ok (.iconst 0, 1) := by decide +kernel
theorem dX5_morePieces_24 : decode cX5_morePieces 24 = .ok (.iload_n 1, 1) := by decide +kernel
theorem dX5_morePieces_25 : decode cX5_morePieces 25 = .ok (.invokevirtual 50, 3) := by decide +kernel
theorem dX5_morePieces_28 : decode cX5_morePieces 28 = .ok (.iload_n 2, 1) := by decide +kernel
theorem dX5_morePieces_29 : decode cX5_morePieces 29 = .ok (.isub, 1) := by decide +kernel
theorem dX5_morePieces_30 : decode cX5_morePieces 30 = .ok (.ireturn, 1) := by decide +kernel
theorem dX5_squares_0 : decode cX5_squares 0 = .ok (.iload_n 1, 1) := by decide +kernel
theorem dX5_squares_1 : decode cX5_squares 1 = .ok (.i2l, 1) := by decide +kernel
theorem dX5_squares_2 : decode cX5_squares 2 = .ok (.ldc2_w 68, 3) := by decide +kernel
theorem dX5_squares_5 : decode cX5_squares 5 = .ok (.ldc2_w 70, 3) := by decide +kernel
theorem dX5_squares_8 : decode cX5_squares 8 = .ok (.invokestatic 38, 3) := by decide +kernel
theorem dX5_squares_11 : decode cX5_squares 11 = .ok (.ifCond .ne 6, 3) := by decide +kernel
theorem dX5_squares_14 : decode cX5_squares 14 = .ok (.bipush (-2), 2) := by decide +kernel
theorem dX5_squares_16 : decode cX5_squares 16 = .ok (.ireturn, 1) := by decide +kernel
theorem dX5_squares_17 : decode cX5_squares 17 = .ok (.iconst 0, 1) := by decide +kernel
theorem dX5_squares_18 : decode cX5_squares 18 = .ok (.istore_n 2, 1) := by decide +kernel
theorem dX5_squares_19 : decode cX5_squares 19 = .ok (.iload_n 2, 1) := by decide +kernel
theorem dX5_squares_20 : decode cX5_squares 20 = .ok (.aload_n 0, 1) := by decide +kernel
theorem dX5_squares_21 : decode cX5_squares 21 = .ok (.getfield 7, 3) := by decide +kernel
theorem dX5_squares_24 : decode cX5_squares 24 = .ok (.iconst 1, 1) := by decide +kernel
theorem dX5_squares_25 : decode cX5_squares 25 = .ok (.iaload, 1) := by decide +kernel
theorem dX5_squares_26 : decode cX5_squares 26 = .ok (.if_icmp .ge 25, 3) := by decide +kernel
theorem dX5_squares_29 : decode cX5_squares 29 = .ok (.aload_n 0, 1) := by decide +kernel
theorem dX5_squares_30 : decode cX5_squares 30 = .ok (.getfield 7, 3) := by decide +kernel
theorem dX5_squares_33 : decode cX5_squares 33 = .ok (.bipush 32, 2) := by decide +kernel
theorem dX5_squares_35 : decode cX5_squares 35 = .ok (.iload_n 2, 1) := by decide +kernel
theorem dX5_squares_36 : decode cX5_squares 36 = .ok (.iadd, 1) := by decide +kernel
theorem dX5_squares_37 : decode cX5_squares 37 = .ok (.iaload, 1) := by decide +kernel
theorem dX5_squares_38 : decode cX5_squares 38 = .ok (.iload_n 1, 1) := by decide +kernel
theorem dX5_squares_39 : decode cX5_squares 39 = .ok (.if_icmp .lt 6, 3) := by decide +kernel
theorem dX5_squares_42 : decode cX5_squares 42 = .ok (.bipush (-5), 2) := by decide +kernel
theorem dX5_squares_44 : decode cX5_squares 44 = .ok (.ireturn, 1) := by decide +kernel
theorem dX5_squares_45 : decode cX5_squares 45 = .ok (.iinc 2 1, 3) := by decide +kernel
theorem dX5_squares_48 : decode cX5_squares 48 = .ok (.goto (-29), 3) := by decide +kernel
theorem dX5_squares_51 : decode cX5_squares 51 = .ok (.aload_n 0, 1) := by decide +kernel
theorem dX5_squares_52 : decode cX5_squares 52 = .ok (.invokevirtual 72, 3) := by decide +kernel
theorem dX5_squares_55 : decode cX5_squares 55 = .ok (.aload_n 0, 1) := by decide +kernel
theorem dX5_squares_56 : decode cX5_squares 56 = .ok (.getfield 7, 3) := by decide +kernel
theorem dX5_squares_59 : decode cX5_squares 59 = .ok (.iconst 0, 1) := by decide +kernel
theorem dX5_squares_60 : decode cX5_squares 60 = .ok (.iaload, 1) := by decide +kernel
theorem dX5_squares_61 : decode cX5_squares 61 = .ok (.istore_n 2, 1) := by decide +kernel
theorem dX5_squares_62 : decode cX5_squares 62 = .ok (.aload_n 0, 1) := by decide +kernel
theorem dX5_squares_63 : decode cX5_squares 63 = .ok (.getfield 7, 3) := by decide +kernel
theorem dX5_squares_66 : decode cX5_squares 66 = .ok (.iconst 0, 1) := by decide +kernel
theorem dX5_squares_67 : decode cX5_squares 67 = .ok (.iload_n 1, 1) := by decide +kernel
theorem dX5_squares_68 : decode cX5_squares 68 = .ok (.iastore, 1) := by decide +kernel
theorem dX5_squares_69 : decode cX5_squares 69 = .ok (.aload_n 0, 1) := by decide +kernel
theorem dX5_squares_70 : decode cX5_squares 70 = .ok (.iload_n 2, 1) := by decide +kernel
theorem dX5_squares_71 : decode cX5_squares 71 = .ok (.invokevirtual 75, 3) := by decide +kernel
theorem dX5_squares_74 : decode cX5_squares 74 = .ok (.ireturn, 1) := by decide +kernel
theorem dX5_adds_0 : decode cX5_adds 0 = .ok (.aload_n 0, 1) := by decide +kernel
theorem dX5_adds_1 : decode cX5_adds 1 = .ok (.getfield 7, 3) := by decide +kernel
theorem dX5_adds_4 : decode cX5_adds 4 = .ok (.iconst 2, 1) := by decide +kernel
theorem dX5_adds_5 : decode cX5_adds 5 = .ok (.aload_n 0, 1) := by decide +kernel
theorem dX5_adds_6 : decode cX5_adds 6 = .ok (.getfield 7, 3) := by decide +kernel
theorem dX5_adds_9 : decode cX5_adds 9 = .ok (.iconst 1, 1) := by decide +kernel
theorem dX5_adds_10 : decode cX5_adds 10 = .ok (.iaload, 1) := by decide +kernel
theorem dX5_adds_11 : decode cX5_adds 11 = .ok (.iadd, 1) := by decide +kernel
theorem dX5_adds_12 : decode cX5_adds 12 = .ok (.iload_n 1, 1) := by decide +kernel
theorem dX5_adds_13 : decode cX5_adds 13 = .ok (.iload_n 2, 1) := by decide +kernel
theorem dX5_adds_14 : decode cX5_adds 14 = .ok (.if_icmp .ge 7, 3) := by decide +kernel
theorem dX5_adds_17 : decode cX5_adds 17 = .ok (.iload_n 1, 1) := by decide +kernel
theorem dX5_adds_18 : decode cX5_adds 18 = .ok (.goto 4, 3) := by decide +kernel
theorem dX5_adds_21 : decode cX5_adds 21 = .ok (.iload_n 2, 1) := by decide +kernel
theorem dX5_adds_22 : decode cX5_adds 22 = .ok (.iastore, 1) := by decide +kernel
theorem dX5_adds_23 : decode cX5_adds 23 = .ok (.aload_n 0, 1) := by decide +kernel
theorem dX5_adds_24 : decode cX5_adds 24 = .ok (.getfield 7, 3) := by decide +kernel
theorem dX5_adds_27 : decode cX5_adds 27 = .ok (.bipush 32, 2) := by decide +kernel
theorem dX5_adds_29 : decode cX5_adds 29 = .ok (.aload_n 0, 1) := by decide +kernel
theorem dX5_adds_30 : decode cX5_adds 30 = .ok (.getfield 7, 3) := by decide +kernel
theorem dX5_adds_33 : decode cX5_adds 33 = .ok (.iconst 1, 1) := by decide +kernel
theorem dX5_adds_34 : decode cX5_adds 34 = .ok (.iaload, 1) := by decide +kernel
theorem dX5_adds_35 : decode cX5_adds 35 = .ok (.iadd, 1) := by decide +kernel
theorem dX5_adds_36 : decode cX5_adds 36 = .ok (.iload_n 1, 1) := by decide +kernel
theorem dX5_adds_37 : decode cX5_adds 37 = .ok (.iload_n 2, 1) := by decide +kernel
theorem dX5_adds_38 : decode cX5_adds 38 = .ok (.if_icmp .ge 7, 3) := by decide +kernel
theorem dX5_adds_41 : decode cX5_adds 41 = .ok (.iload_n 2, 1) := by decide +kernel
theorem dX5_adds_42 : decode cX5_adds 42 = .ok (.goto 4, 3) := by decide +kernel
theorem dX5_adds_45 : decode cX5_adds 45 = .ok (.iload_n 1, 1) := by decide +kernel
theorem dX5_adds_46 : decode cX5_adds 46 = .ok (.iastore, 1) := by decide +kernel
theorem dX5_adds_47 : decode cX5_adds 47 = .ok (.aload_n 0, 1) := by decide +kernel
theorem dX5_adds_48 : decode cX5_adds 48 = .ok (.getfield 7, 3) := by decide +kernel
theorem dX5_adds_51 : decode cX5_adds 51 = .ok (.bipush 62, 2) := by decide +kernel
theorem dX5_adds_53 : decode cX5_adds 53 = .ok (.aload_n 0, 1) := by decide +kernel
theorem dX5_adds_54 : decode cX5_adds 54 = .ok (.getfield 7, 3) := by decide +kernel
theorem dX5_adds_57 : decode cX5_adds 57 = .ok (.iconst 1, 1) := by decide +kernel
theorem dX5_adds_58 : decode cX5_adds 58 = .ok (.iaload, 1) := by decide +kernel
theorem dX5_adds_59 : decode cX5_adds 59 = .ok (.iadd, 1) := by decide +kernel
theorem dX5_adds_60 : decode cX5_adds 60 = .ok (.iload_n 3, 1) := by decide +kernel
theorem dX5_adds_61 : decode cX5_adds 61 = .ok (.iastore, 1) := by decide +kernel
theorem dX5_adds_62 : decode cX5_adds 62 = .ok (.aload_n 0, 1) := by decide +kernel
theorem dX5_adds_63 : decode cX5_adds 63 = .ok (.getfield 7, 3) := by decide +kernel
theorem dX5_adds_66 : decode cX5_adds 66 = .ok (.iconst 1, 1) := by decide +kernel
theorem dX5_adds_67 : decode cX5_adds 67 = .ok (.dup2, 1) := by decide +kernel
theorem dX5_adds_68 : decode cX5_adds 68 = .ok (.iaload, 1) := by decide +kernel
theorem dX5_adds_69 : decode cX5_adds 69 = .ok (.iconst 1, 1) := by decide +kernel
theorem dX5_adds_70 : decode cX5_adds 70 = .ok (.iadd, 1) := by decide +kernel
theorem dX5_adds_71 : decode cX5_adds 71 = .ok (.iastore, 1) := by decide +kernel
theorem dX5_adds_72 : decode cX5_adds 72 = .ok (.return_, 1) := by decide +kernel
theorem dX5_build_0 : decode cX5_build 0 = .ok (.aload_n 0, 1) := by decide +kernel
theorem dX5_build_1 : decode cX5_build 1 = .ok (.iload_n 1, 1) := by decide +kernel
theorem dX5_build_2 : decode cX5_build 2 = .ok (.invokevirtual 78, 3) := by decide +kernel
theorem dX5_build_5 : decode cX5_build 5 = .ok (.ifCond .eq 11, 3) := by decide +kernel
theorem dX5_build_8 : decode cX5_build 8 = .ok (.aload_n 0, 1) := by decide +kernel
theorem dX5_build_9 : decode cX5_build 9 = .ok (.iload_n 2, 1) := by decide +kernel
theorem dX5_build_10 : decode cX5_build 10 = .ok (.invokevirtual 78, 3) := by decide +kernel
theorem dX5_build_13 : decode cX5_build 13 = .ok (.ifCond .ne 5, 3) := by decide +kernel
theorem dX5_build_16 : decode cX5_build 16 = .ok (.iconst (-1), 1) := by decide +kernel
theorem dX5_build_17 : decode cX5_build 17 = .ok (.ireturn, 1) := by decide +kernel
theorem dX5_build_18 : decode cX5_build 18 = .ok (.iload_n 1, 1) := by decide +kernel
theorem dX5_build_19 : decode cX5_build 19 = .ok (.iload_n 2, 1) := by decide +kernel
theorem dX5_build_20 : decode cX5_build 20 = .ok (.if_icmp .eq 15, 3) := by decide +kernel
theorem dX5_build_23 : decode cX5_build 23 = .ok (.iload_n 3, 1) := by decide +kernel
theorem dX5_build_24 : decode cX5_build 24 = .ok (.i2l, 1) := by decide +kernel
theorem dX5_build_25 : decode cX5_build 25 = .ok (.lconst 1, 1) := by decide +kernel
theorem dX5_build_26 : decode cX5_build 26 = .ok (.ldc2_w 81, 3) := by decide +kernel
theorem dX5_build_29 : decode cX5_build 29 = .ok (.invokestatic 38, 3) := by decide +kernel
theorem dX5_build_32 : decode cX5_build 32 = .ok (.ifCond .ne 6, 3) := by decide +kernel
theorem dX5_build_35 : decode cX5_build 35 = .ok (.bipush (-2), 2) := by decide +kernel
theorem dX5_build_37 : decode cX5_build 37 = .ok (.ireturn, 1) := by decide +kernel
theorem dX5_build_38 : decode cX5_build 38 = .ok (.aload_n 0, 1) := by decide +kernel
theorem dX5_build_39 : decode cX5_build 39 = .ok (.getfield 7, 3) := by decide +kernel
theorem dX5_build_42 : decode cX5_build 42 = .ok (.iconst 1, 1) := by decide +kernel
theorem dX5_build_43 : decode cX5_build 43 = .ok (.iaload, 1) := by decide +kernel
theorem dX5_build_44 : decode cX5_build 44 = .ok (.bipush 30, 2) := by decide +kernel
theorem dX5_build_46 : decode cX5_build 46 = .ok (.if_icmp .ne 6, 3) := by decide +kernel
theorem dX5_build_49 : decode cX5_build 49 = .ok (.bipush (-4), 2) := by decide +kernel
theorem dX5_build_51 : decode cX5_build 51 = .ok (.ireturn, 1) := by decide +kernel
theorem dX5_build_52 : decode cX5_build 52 = .ok (.aload_n 0, 1) := by decide +kernel
theorem dX5_build_53 : decode cX5_build 53 = .ok (.invokevirtual 72, 3) := by decide +kernel
theorem dX5_build_56 : decode cX5_build 56 = .ok (.aload_n 0, 1) := by decide +kernel
theorem dX5_build_57 : decode cX5_build 57 = .ok (.iload_n 1, 1) := by decide +kernel
theorem dX5_build_58 : decode cX5_build 58 = .ok (.iload_n 2, 1) := by decide +kernel
theorem dX5_build_59 : decode cX5_build 59 = .ok (.iload_n 3, 1) := by decide +kernel
theorem dX5_build_60 : decode cX5_build 60 = .ok (.invokevirtual 83, 3) := by decide +kernel
theorem dX5_build_63 : decode cX5_build 63 = .ok (.aload_n 0, 1) := by decide +kernel
theorem dX5_build_64 : decode cX5_build 64 = .ok (.aload_n 0, 1) := by decide +kernel
theorem dX5_build_65 : decode cX5_build 65 = .ok (.invokevirtual 61, 3) := by decide +kernel
theorem dX5_build_68 : decode cX5_build 68 = .ok (.invokevirtual 75, 3) := by decide +kernel
theorem dX5_build_71 : decode cX5_build 71 = .ok (.ireturn, 1) := by decide +kernel
theorem dX5_lose_0 : decode cX5_lose 0 = .ok (.aload_n 0, 1) := by decide +kernel
theorem dX5_lose_1 : decode cX5_lose 1 = .ok (.iload_n 1, 1) := by decide +kernel
theorem dX5_lose_2 : decode cX5_lose 2 = .ok (.invokevirtual 87, 3) := by decide +kernel
theorem dX5_lose_5 : decode cX5_lose 5 = .ok (.ifCond .ne 5, 3) := by decide +kernel
theorem dX5_lose_8 : decode cX5_lose 8 = .ok (.iconst (-1), 1) := by decide +kernel
theorem dX5_lose_9 : decode cX5_lose 9 = .ok (.ireturn, 1) := by decide +kernel
theorem dX5_lose_10 : decode cX5_lose 10 = .ok (.aload_n 0, 1) := by decide +kernel
theorem dX5_lose_11 : decode cX5_lose 11 = .ok (.invokevirtual 72, 3) := by decide +kernel
theorem dX5_lose_14 : decode cX5_lose 14 = .ok (.aload_n 0, 1) := by decide +kernel
theorem dX5_lose_15 : decode cX5_lose 15 = .ok (.getfield 7, 3) := by decide +kernel
theorem dX5_lose_18 : decode cX5_lose 18 = .ok (.iconst 1, 1) := by decide +kernel
theorem dX5_lose_19 : decode cX5_lose 19 = .ok (.dup2, 1) := by decide +kernel
theorem dX5_lose_20 : decode cX5_lose 20 = .ok (.iaload, 1) := by decide +kernel
theorem dX5_lose_21 : decode cX5_lose 21 = .ok (.iconst 1, 1) := by decide +kernel
theorem dX5_lose_22 : decode cX5_lose 22 = .ok (.isub, 1) := by decide +kernel
theorem dX5_lose_23 : decode cX5_lose 23 = .ok (.iastore, 1) := by decide +kernel
theorem dX5_lose_24 : decode cX5_lose 24 = .ok (.iload_n 1, 1) := by decide +kernel
theorem dX5_lose_25 : decode cX5_lose 25 = .ok (.istore_n 2, 1) := by decide +kernel
theorem dX5_lose_26 : decode cX5_lose 26 = .ok (.iload_n 2, 1) := by decide +kernel
theorem dX5_lose_27 : decode cX5_lose 27 = .ok (.aload_n 0, 1) := by decide +kernel
theorem dX5_lose_28 : decode cX5_lose 28 = .ok (.getfield 7, 3) := by decide +kernel
theorem dX5_lose_31 : decode cX5_lose 31 = .ok (.iconst 1, 1) := by decide +kernel
theorem dX5_lose_32 : decode cX5_lose 32 = .ok (.iaload, 1) := by decide +kernel
theorem dX5_lose_33 : decode cX5_lose 33 = .ok (.if_icmp .ge 67, 3) := by decide +kernel
theorem dX5_lose_36 : decode cX5_lose 36 = .ok (.aload_n 0, 1) := by decide +kernel
theorem dX5_lose_37 : decode cX5_lose 37 = .ok (.getfield 7, 3) := by decide +kernel
theorem dX5_lose_40 : decode cX5_lose 40 = .ok (.iconst 2, 1) := by decide +kernel
theorem dX5_lose_41 : decode cX5_lose 41 = .ok (.iload_n 2, 1) := by decide +kernel
theorem dX5_lose_42 : decode cX5_lose 42 = .ok (.iadd, 1) := by decide +kernel
theorem dX5_lose_43 : decode cX5_lose 43 = .ok (.aload_n 0, 1) := by decide +kernel
theorem dX5_lose_44 : decode cX5_lose 44 = .ok (.getfield 7, 3) := by decide +kernel
theorem dX5_lose_47 : decode cX5_lose 47 = .ok (.iconst 2, 1) := by decide +kernel
theorem dX5_lose_48 : decode cX5_lose 48 = .ok (.iload_n 2, 1) := by decide +kernel
theorem dX5_lose_49 : decode cX5_lose 49 = .ok (.iadd, 1) := by decide +kernel
theorem dX5_lose_50 : decode cX5_lose 50 = .ok (.iconst 1, 1) := by decide +kernel
theorem dX5_lose_51 : decode cX5_lose 51 = .ok (.iadd, 1) := by decide +kernel
theorem dX5_lose_52 : decode cX5_lose 52 = .ok (.iaload, 1) := by decide +kernel
theorem dX5_lose_53 : decode cX5_lose 53 = .ok (.iastore, 1) := by decide +kernel
theorem dX5_lose_54 : decode cX5_lose 54 = .ok (.aload_n 0, 1) := by decide +kernel
theorem dX5_lose_55 : decode cX5_lose 55 = .ok (.getfield 7, 3) := by decide +kernel
theorem dX5_lose_58 : decode cX5_lose 58 = .ok (.bipush 32, 2) := by decide +kernel
theorem dX5_lose_60 : decode cX5_lose 60 = .ok (.iload_n 2, 1) := by decide +kernel
theorem dX5_lose_61 : decode cX5_lose 61 = .ok (.iadd, 1) := by decide +kernel
theorem dX5_lose_62 : decode cX5_lose 62 = .ok (.aload_n 0, 1) := by decide +kernel
theorem dX5_lose_63 : decode cX5_lose 63 = .ok (.getfield 7, 3) := by decide +kernel
theorem dX5_lose_66 : decode cX5_lose 66 = .ok (.bipush 32, 2) := by decide +kernel
theorem dX5_lose_68 : decode cX5_lose 68 = .ok (.iload_n 2, 1) := by decide +kernel
theorem dX5_lose_69 : decode cX5_lose 69 = .ok (.iadd, 1) := by decide +kernel
theorem dX5_lose_70 : decode cX5_lose 70 = .ok (.iconst 1, 1) := by decide +kernel
theorem dX5_lose_71 : decode cX5_lose 71 = .ok (.iadd, 1) := by decide +kernel
theorem dX5_lose_72 : decode cX5_lose 72 = .ok (.iaload, 1) := by decide +kernel
theorem dX5_lose_73 : decode cX5_lose 73 = .ok (.iastore, 1) := by decide +kernel
theorem dX5_lose_74 : decode cX5_lose 74 = .ok (.aload_n 0, 1) := by decide +kernel
theorem dX5_lose_75 : decode cX5_lose 75 = .ok (.getfield 7, 3) := by decide +kernel
theorem dX5_lose_78 : decode cX5_lose 78 = .ok (.bipush 62, 2) := by decide +kernel
theorem dX5_lose_80 : decode cX5_lose 80 = .ok (.iload_n 2, 1) := by decide +kernel
theorem dX5_lose_81 : decode cX5_lose 81 = .ok (.iadd, 1) := by decide +kernel
theorem dX5_lose_82 : decode cX5_lose 82 = .ok (.aload_n 0, 1) := by decide +kernel
theorem dX5_lose_83 : decode cX5_lose 83 = .ok (.getfield 7, 3) := by decide +kernel
theorem dX5_lose_86 : decode cX5_lose 86 = .ok (.bipush 62, 2) := by decide +kernel
theorem dX5_lose_88 : decode cX5_lose 88 = .ok (.iload_n 2, 1) := by decide +kernel
theorem dX5_lose_89 : decode cX5_lose 89 = .ok (.iadd, 1) := by decide +kernel
theorem dX5_lose_90 : decode cX5_lose 90 = .ok (.iconst 1, 1) := by decide +kernel
theorem dX5_lose_91 : decode cX5_lose 91 = .ok (.iadd, 1) := by decide +kernel
theorem dX5_lose_92 : decode cX5_lose 92 = .ok (.iaload, 1) := by decide +kernel
theorem dX5_lose_93 : decode cX5_lose 93 = .ok (.iastore, 1) := by decide +kernel
theorem dX5_lose_94 : decode cX5_lose 94 = .ok (.iinc 2 1, 3) := by decide +kernel
theorem dX5_lose_97 : decode cX5_lose 97 = .ok (.goto (-71), 3) := by decide +kernel
theorem dX5_lose_100 : decode cX5_lose 100 = .ok (.aload_n 0, 1) := by decide +kernel
theorem dX5_lose_101 : decode cX5_lose 101 = .ok (.aload_n 0, 1) := by decide +kernel
theorem dX5_lose_102 : decode cX5_lose 102 = .ok (.invokevirtual 61, 3) := by decide +kernel
theorem dX5_lose_105 : decode cX5_lose 105 = .ok (.invokevirtual 75, 3) := by decide +kernel
theorem dX5_lose_108 : decode cX5_lose 108 = .ok (.ireturn, 1) := by decide +kernel
theorem dX5_findsFar_0 : decode cX5_findsFar 0 = .ok (.iconst 0, 1) := by decide +kernel
theorem dX5_findsFar_1 : decode cX5_findsFar 1 = .ok (.istore 4, 2) := by decide +kernel
theorem dX5_findsFar_3 : decode cX5_findsFar 3 = .ok (.iload 4, 2) := by decide +kernel
theorem dX5_findsFar_5 : decode cX5_findsFar 5 = .ok (.bipush 16, 2) := by decide +kernel
theorem dX5_findsFar_7 : decode cX5_findsFar 7 = .ok (.if_icmp .ge 28, 3) := by decide +kernel
theorem dX5_findsFar_10 : decode cX5_findsFar 10 = .ok (.aload_n 0, 1) := by decide +kernel
theorem dX5_findsFar_11 : decode cX5_findsFar 11 = .ok (.getfield 25, 3) := by decide +kernel
theorem dX5_findsFar_14 : decode cX5_findsFar 14 = .ok (.iload 4, 2) := by decide +kernel
theorem dX5_findsFar_16 : decode cX5_findsFar 16 = .ok (.iload 4, 2) := by decide +kernel
theorem dX5_findsFar_18 : decode cX5_findsFar 18 = .ok (.iload_n 1, 1) := by decide +kernel
theorem dX5_findsFar_19 : decode cX5_findsFar 19 = .ok (.if_icmp .ne 7, 3) := by decide +kernel
theorem dX5_findsFar_22 : decode cX5_findsFar 22 = .ok (.iconst 0, 1) := by decide +kernel
theorem dX5_findsFar_23 : decode cX5_findsFar 23 = .ok (.goto 5, 3) := by decide +kernel
theorem dX5_findsFar_26 : decode cX5_findsFar 26 = .ok (.ldc 90, 2) := by decide +kernel
theorem dX5_findsFar_28 : decode cX5_findsFar 28 = .ok (.iastore, 1) := by decide +kernel
theorem dX5_findsFar_29 : decode cX5_findsFar 29 = .ok (.iinc 4 1, 3) := by decide +kernel
theorem dX5_findsFar_32 : decode cX5_findsFar 32 = .ok (.goto (-29), 3) := by decide +kernel
theorem dX5_findsFar_35 : decode cX5_findsFar 35 = .ok (.iconst 0, 1) := by decide +kernel
theorem dX5_findsFar_36 : decode cX5_findsFar 36 = .ok (.istore 4, 2) := by decide +kernel
theorem dX5_findsFar_38 : decode cX5_findsFar 38 = .ok (.iload 4, 2) := by decide +kernel
theorem dX5_findsFar_40 : decode cX5_findsFar 40 = .ok (.bipush 16, 2) := by decide +kernel
theorem dX5_findsFar_42 : decode cX5_findsFar 42 = .ok (.if_icmp .ge 181, 3) := by decide +kernel
theorem dX5_findsFar_45 : decode cX5_findsFar 45 = .ok (.iconst 0, 1) := by decide +kernel
theorem dX5_findsFar_46 : decode cX5_findsFar 46 = .ok (.istore 5, 2) := by decide +kernel
theorem dX5_findsFar_48 : decode cX5_findsFar 48 = .ok (.iload 5, 2) := by decide +kernel
theorem dX5_findsFar_50 : decode cX5_findsFar 50 = .ok (.aload_n 0, 1) := by decide +kernel
theorem dX5_findsFar_51 : decode cX5_findsFar 51 = .ok (.getfield 7, 3) := by decide +kernel
theorem dX5_findsFar_54 : decode cX5_findsFar 54 = .ok (.iconst 1, 1) := by decide +kernel
theorem dX5_findsFar_55 : decode cX5_findsFar 55 = .ok (.iaload, 1) := by decide +kernel
theorem dX5_findsFar_56 : decode cX5_findsFar 56 = .ok (.if_icmp .ge 161, 3) := by decide +kernel
theorem dX5_findsFar_59 : decode cX5_findsFar 59 = .ok (.iload_n 2, 1) := by decide +kernel
theorem dX5_findsFar_60 : decode cX5_findsFar 60 = .ok (.iload 5, 2) := by decide +kernel
theorem dX5_findsFar_62 : decode cX5_findsFar 62 = .ok (.ishr, 1) := by decide +kernel
theorem dX5_findsFar_63 : decode cX5_findsFar 63 = .ok (.iconst 1, 1) := by decide +kernel
theorem dX5_findsFar_64 : decode cX5_findsFar 64 = .ok (.iand, 1) := by decide +kernel
theorem dX5_findsFar_65 : decode cX5_findsFar 65 = .ok (.iconst 1, 1) := by decide +kernel
theorem dX5_findsFar_66 : decode cX5_findsFar 66 = .ok (.if_icmp .ne 8, 3) := by decide +kernel
theorem dX5_findsFar_69 : decode cX5_findsFar 69 = .ok (.ldc 90, 2) := by decide +kernel
theorem dX5_findsFar_71 : decode cX5_findsFar 71 = .ok (.goto 21, 3) := by decide +kernel
theorem dX5_findsFar_74 : decode cX5_findsFar 74 = .ok (.iload_n 3, 1) := by decide +kernel
theorem dX5_findsFar_75 : decode cX5_findsFar 75 = .ok (.ifCond .eq 16, 3) := by decide +kernel
theorem dX5_findsFar_78 : decode cX5_findsFar 78 = .ok (.aload_n 0, 1) := by decide +kernel
theorem dX5_findsFar_79 : decode cX5_findsFar 79 = .ok (.getfield 7, 3) := by decide +kernel
theorem dX5_findsFar_82 : decode cX5_findsFar 82 = .ok (.bipush 62, 2) := by decide +kernel
theorem dX5_findsFar_84 : decode cX5_findsFar 84 = .ok (.iload 5, 2) := by decide +kernel
theorem dX5_findsFar_86 : decode cX5_findsFar 86 = .ok (.iadd, 1) := by decide +kernel
theorem dX5_findsFar_87 : decode cX5_findsFar 87 = .ok (.iaload, 1) := by decide +kernel
theorem dX5_findsFar_88 : decode cX5_findsFar 88 = .ok (.goto 4, 3) := by decide +kernel
theorem dX5_findsFar_91 : decode cX5_findsFar 91 = .ok (.iconst 1, 1) := by decide +kernel
theorem dX5_findsFar_92 : decode cX5_findsFar 92 = .ok (.istore 6, 2) := by decide +kernel
theorem dX5_findsFar_94 : decode cX5_findsFar 94 = .ok (.aload_n 0, 1) := by decide +kernel
theorem dX5_findsFar_95 : decode cX5_findsFar 95 = .ok (.getfield 7, 3) := by decide +kernel
theorem dX5_findsFar_98 : decode cX5_findsFar 98 = .ok (.iconst 2, 1) := by decide +kernel
theorem dX5_findsFar_99 : decode cX5_findsFar 99 = .ok (.iload 5, 2) := by decide +kernel
theorem dX5_findsFar_101 : decode cX5_findsFar 101 = .ok (.iadd, 1) := by decide +kernel
theorem dX5_findsFar_102 : decode cX5_findsFar 102 = .ok (.iaload, 1) := by decide +kernel
theorem dX5_findsFar_103 : decode cX5_findsFar 103 = .ok (.istore 7, 2) := by decide +kernel
theorem dX5_findsFar_105 : decode cX5_findsFar 105 = .ok (.aload_n 0, 1) := by decide +kernel
theorem dX5_findsFar_106 : decode cX5_findsFar 106 = .ok (.getfield 7, 3) := by decide +kernel
theorem dX5_findsFar_109 : decode cX5_findsFar 109 = .ok (.bipush 32, 2) := by decide +kernel
theorem dX5_findsFar_111 : decode cX5_findsFar 111 = .ok (.iload 5, 2) := by decide +kernel
theorem dX5_findsFar_113 : decode cX5_findsFar 113 = .ok (.iadd, 1) := by decide +kernel
theorem dX5_findsFar_114 : decode cX5_findsFar 114 = .ok (.iaload, 1) := by decide +kernel
theorem dX5_findsFar_115 : decode cX5_findsFar 115 = .ok (.istore 8, 2) := by decide +kernel
theorem dX5_findsFar_117 : decode cX5_findsFar 117 = .ok (.aload_n 0, 1) := by decide +kernel
theorem dX5_findsFar_118 : decode cX5_findsFar 118 = .ok (.getfield 25, 3) := by decide +kernel
theorem dX5_findsFar_121 : decode cX5_findsFar 121 = .ok (.iload 8, 2) := by decide +kernel
theorem dX5_findsFar_123 : decode cX5_findsFar 123 = .ok (.aload_n 0, 1) := by decide +kernel
theorem dX5_findsFar_124 : decode cX5_findsFar 124 = .ok (.getfield 25, 3) := by decide +kernel
theorem dX5_findsFar_127 : decode cX5_findsFar 127 = .ok (.iload 7, 2) := by decide +kernel
theorem dX5_findsFar_129 : decode cX5_findsFar 129 = .ok (.iaload, 1) := by decide +kernel
theorem dX5_findsFar_130 : decode cX5_findsFar 130 = .ok (.iload 6, 2) := by decide +kernel
theorem dX5_findsFar_132 : decode cX5_findsFar 132 = .ok (.iadd, 1) := by decide +kernel
theorem dX5_findsFar_133 : decode cX5_findsFar 133 = .ok (.aload_n 0, 1) := by decide +kernel
theorem dX5_findsFar_134 : decode cX5_findsFar 134 = .ok (.getfield 25, 3) := by decide +kernel
theorem dX5_findsFar_137 : decode cX5_findsFar 137 = .ok (.iload 8, 2) := by decide +kernel
theorem dX5_findsFar_139 : decode cX5_findsFar 139 = .ok (.iaload, 1) := by decide +kernel
theorem dX5_findsFar_140 : decode cX5_findsFar 140 = .ok (.if_icmp .ge 16, 3) := by decide +kernel
theorem dX5_findsFar_143 : decode cX5_findsFar 143 = .ok (.aload_n 0, 1) := by decide +kernel
theorem dX5_findsFar_144 : decode cX5_findsFar 144 = .ok (.getfield 25, 3) := by decide +kernel
theorem dX5_findsFar_147 : decode cX5_findsFar 147 = .ok (.iload 7, 2) := by decide +kernel
theorem dX5_findsFar_149 : decode cX5_findsFar 149 = .ok (.iaload, 1) := by decide +kernel
theorem dX5_findsFar_150 : decode cX5_findsFar 150 = .ok (.iload 6, 2) := by decide +kernel
theorem dX5_findsFar_152 : decode cX5_findsFar 152 = .ok (.iadd, 1) := by decide +kernel
theorem dX5_findsFar_153 : decode cX5_findsFar 153 = .ok (.goto 10, 3) := by decide +kernel
theorem dX5_findsFar_156 : decode cX5_findsFar 156 = .ok (.aload_n 0, 1) := by decide +kernel
theorem dX5_findsFar_157 : decode cX5_findsFar 157 = .ok (.getfield 25, 3) := by decide +kernel
theorem dX5_findsFar_160 : decode cX5_findsFar 160 = .ok (.iload 8, 2) := by decide +kernel
theorem dX5_findsFar_162 : decode cX5_findsFar 162 = .ok (.iaload, 1) := by decide +kernel
theorem dX5_findsFar_163 : decode cX5_findsFar 163 = .ok (.iastore, 1) := by decide +kernel
theorem dX5_findsFar_164 : decode cX5_findsFar 164 = .ok (.aload_n 0, 1) := by decide +kernel
theorem dX5_findsFar_165 : decode cX5_findsFar 165 = .ok (.getfield 25, 3) := by decide +kernel
theorem dX5_findsFar_168 : decode cX5_findsFar 168 = .ok (.iload 7, 2) := by decide +kernel
theorem dX5_findsFar_170 : decode cX5_findsFar 170 = .ok (.aload_n 0, 1) := by decide +kernel
theorem dX5_findsFar_171 : decode cX5_findsFar 171 = .ok (.getfield 25, 3) := by decide +kernel
theorem dX5_findsFar_174 : decode cX5_findsFar 174 = .ok (.iload 8, 2) := by decide +kernel
theorem dX5_findsFar_176 : decode cX5_findsFar 176 = .ok (.iaload, 1) := by decide +kernel
theorem dX5_findsFar_177 : decode cX5_findsFar 177 = .ok (.iload 6, 2) := by decide +kernel
theorem dX5_findsFar_179 : decode cX5_findsFar 179 = .ok (.iadd, 1) := by decide +kernel
theorem dX5_findsFar_180 : decode cX5_findsFar 180 = .ok (.aload_n 0, 1) := by decide +kernel
theorem dX5_findsFar_181 : decode cX5_findsFar 181 = .ok (.getfield 25, 3) := by decide +kernel
theorem dX5_findsFar_184 : decode cX5_findsFar 184 = .ok (.iload 7, 2) := by decide +kernel
theorem dX5_findsFar_186 : decode cX5_findsFar 186 = .ok (.iaload, 1) := by decide +kernel
theorem dX5_findsFar_187 : decode cX5_findsFar 187 = .ok (.if_icmp .ge 16, 3) := by decide +kernel
theorem dX5_findsFar_190 : decode cX5_findsFar 190 = .ok (.aload_n 0, 1) := by decide +kernel
theorem dX5_findsFar_191 : decode cX5_findsFar 191 = .ok (.getfield 25, 3) := by decide +kernel
theorem dX5_findsFar_194 : decode cX5_findsFar 194 = .ok (.iload 8, 2) := by decide +kernel
theorem dX5_findsFar_196 : decode cX5_findsFar 196 = .ok (.iaload, 1) := by decide +kernel
theorem dX5_findsFar_197 : decode cX5_findsFar 197 = .ok (.iload 6, 2) := by decide +kernel
theorem dX5_findsFar_199 : decode cX5_findsFar 199 = .ok (.iadd, 1) := by decide +kernel
theorem dX5_findsFar_200 : decode cX5_findsFar 200 = .ok (.goto 10, 3) := by decide +kernel
theorem dX5_findsFar_203 : decode cX5_findsFar 203 = .ok (.aload_n 0, 1) := by decide +kernel
theorem dX5_findsFar_204 : decode cX5_findsFar 204 = .ok (.getfield 25, 3) := by decide +kernel
theorem dX5_findsFar_207 : decode cX5_findsFar 207 = .ok (.iload 7, 2) := by decide +kernel
theorem dX5_findsFar_209 : decode cX5_findsFar 209 = .ok (.iaload, 1) := by decide +kernel
theorem dX5_findsFar_210 : decode cX5_findsFar 210 = .ok (.iastore, 1) := by decide +kernel
theorem dX5_findsFar_211 : decode cX5_findsFar 211 = .ok (.iinc 5 1, 3) := by decide +kernel
theorem dX5_findsFar_214 : decode cX5_findsFar 214 = .ok (.goto (-166), 3) := by decide +kernel
theorem dX5_findsFar_217 : decode cX5_findsFar 217 = .ok (.iinc 4 1, 3) := by decide +kernel
theorem dX5_findsFar_220 : decode cX5_findsFar 220 = .ok (.goto (-182), 3) := by decide +kernel
theorem dX5_findsFar_223 : decode cX5_findsFar 223 = .ok (.return_, 1) := by decide +kernel
theorem dX5_leastRing_0 : decode cX5_leastRing 0 = .ok (.aload_n 0, 1) := by decide +kernel
theorem dX5_leastRing_1 : decode cX5_leastRing 1 = .ok (.aload_n 0, 1) := by decide +kernel
theorem dX5_leastRing_2 : decode cX5_leastRing 2 = .ok (.getfield 7, 3) := by decide +kernel
theorem dX5_leastRing_5 : decode cX5_leastRing 5 = .ok (.iconst 2, 1) := by decide +kernel
theorem dX5_leastRing_6 : decode cX5_leastRing 6 = .ok (.iload_n 1, 1) := by decide +kernel
theorem dX5_leastRing_7 : decode cX5_leastRing 7 = .ok (.iadd, 1) := by decide +kernel
theorem dX5_leastRing_8 : decode cX5_leastRing 8 = .ok (.iaload, 1) := by decide +kernel
theorem dX5_leastRing_9 : decode cX5_leastRing 9 = .ok (.iconst 1, 1) := by decide +kernel
theorem dX5_leastRing_10 : decode cX5_leastRing 10 = .ok (.iload_n 1, 1) := by decide +kernel
theorem dX5_leastRing_11 : decode cX5_leastRing 11 = .ok (.ishl, 1) := by decide +kernel
theorem dX5_leastRing_12 : decode cX5_leastRing 12 = .ok (.iconst 0, 1) := by decide +kernel
theorem dX5_leastRing_13 : decode cX5_leastRing 13 = .ok (.invokevirtual 91, 3) := by decide +kernel
theorem dX5_leastRing_16 : decode cX5_leastRing 16 = .ok (.aload_n 0, 1) := by decide +kernel
theorem dX5_leastRing_17 : decode cX5_leastRing 17 = .ok (.getfield 25, 3) := by decide +kernel
theorem dX5_leastRing_20 : decode cX5_leastRing 20 = .ok (.aload_n 0, 1) := by decide +kernel
theorem dX5_leastRing_21 : decode cX5_leastRing 21 = .ok (.getfield 7, 3) := by decide +kernel
theorem dX5_leastRing_24 : decode cX5_leastRing 24 = .ok (.bipush 32, 2) := by decide +kernel
theorem dX5_leastRing_26 : decode cX5_leastRing 26 = .ok (.iload_n 1, 1) := by decide +kernel
theorem dX5_leastRing_27 : decode cX5_leastRing 27 = .ok (.iadd, 1) := by decide +kernel
theorem dX5_leastRing_28 : decode cX5_leastRing 28 = .ok (.iaload, 1) := by decide +kernel
theorem dX5_leastRing_29 : decode cX5_leastRing 29 = .ok (.iaload, 1) := by decide +kernel
theorem dX5_leastRing_30 : decode cX5_leastRing 30 = .ok (.istore_n 2, 1) := by decide +kernel
theorem dX5_leastRing_31 : decode cX5_leastRing 31 = .ok (.iload_n 2, 1) := by decide +kernel
theorem dX5_leastRing_32 : decode cX5_leastRing 32 = .ok (.ldc 90, 2) := by decide +kernel
theorem dX5_leastRing_34 : decode cX5_leastRing 34 = .ok (.if_icmp .lt 8, 3) := by decide +kernel
theorem dX5_leastRing_37 : decode cX5_leastRing 37 = .ok (.bipush (-6), 2) := by decide +kernel
theorem dX5_leastRing_39 : decode cX5_leastRing 39 = .ok (.goto 6, 3) := by decide +kernel
theorem dX5_leastRing_42 : decode cX5_leastRing 42 = .ok (.iload_n 2, 1) := by decide +kernel
theorem dX5_leastRing_43 : decode cX5_leastRing 43 = .ok (.iconst 1, 1) := by decide +kernel
theorem dX5_leastRing_44 : decode cX5_leastRing 44 = .ok (.iadd, 1) := by decide +kernel
theorem dX5_leastRing_45 : decode cX5_leastRing 45 = .ok (.ireturn, 1) := by decide +kernel
theorem dX5_districtOf_0 : decode cX5_districtOf 0 = .ok (.aload_n 0, 1) := by decide +kernel
theorem dX5_districtOf_1 : decode cX5_districtOf 1 = .ok (.iload_n 1, 1) := by decide +kernel
theorem dX5_districtOf_2 : decode cX5_districtOf 2 = .ok (.aload_n 0, 1) := by decide +kernel
theorem dX5_districtOf_3 : decode cX5_districtOf 3 = .ok (.invokevirtual 95, 3) := by decide +kernel
theorem dX5_districtOf_6 : decode cX5_districtOf 6 = .ok (.bipush (-6), 2) := by decide +kernel
theorem dX5_districtOf_8 : decode cX5_districtOf 8 = .ok (.invokevirtual 46, 3) := by decide +kernel
theorem dX5_districtOf_11 : decode cX5_districtOf 11 = .ok (.ireturn, 1) := by decide +kernel
theorem dX5_districtsBelow_0 : decode cX5_districtsBelow 0 = .ok (.aload_n 0, 1) := by decide +kernel
theorem dX5_districtsBelow_1 : decode cX5_districtsBelow 1 = .ok (.invokevirtual 95, 3) := by decide +kernel
theorem dX5_districtsBelow_4 : decode cX5_districtsBelow 4 = .ok (.istore_n 2, 1) := by decide +kernel
theorem dX5_districtsBelow_5 : decode cX5_districtsBelow 5 = .ok (.iconst 0, 1) := by decide +kernel
theorem dX5_districtsBelow_6 : decode cX5_districtsBelow 6 = .ok (.istore_n 3, 1) := by decide +kernel
theorem dX5_districtsBelow_7 : decode cX5_districtsBelow 7 = .ok (.iconst 0, 1) := by decide +kernel
theorem dX5_districtsBelow_8 : decode cX5_districtsBelow 8 = .ok (.istore 4, 2) := by decide +kernel
theorem dX5_districtsBelow_10 : decode cX5_districtsBelow 10 = .ok (.iload 4, 2) := by decide +kernel
theorem dX5_districtsBelow_12 : decode cX5_districtsBelow 12 = .ok (.iload_n 1, 1) := by decide +kernel
theorem dX5_districtsBelow_13 : decode cX5_districtsBelow 13 = .ok (.if_icmp .ge 36, 3) := by decide +kernel
theorem dX5_districtsBelow_16 : decode cX5_districtsBelow 16 = .ok (.iload_n 3, 1) := by decide +kernel
theorem dX5_districtsBelow_17 : decode cX5_districtsBelow 17 = .ok (.aload_n 0, 1) := by decide +kernel
theorem dX5_districtsBelow_18 : decode cX5_districtsBelow 18 = .ok (.iload 4, 2) := by decide +kernel
theorem dX5_districtsBelow_20 : decode cX5_districtsBelow 20 = .ok (.iload_n 2, 1) := by decide +kernel
theorem dX5_districtsBelow_21 : decode cX5_districtsBelow 21 = .ok (.bipush (-6), 2) := by decide +kernel
theorem dX5_districtsBelow_23 : decode cX5_districtsBelow 23 = .ok (.invokevirtual 46, 3) := by decide +kernel
theorem dX5_districtsBelow_26 : decode cX5_districtsBelow 26 = .ok (.iconst 1, 1) := by decide +kernel
theorem dX5_districtsBelow_27 : decode cX5_districtsBelow 27 = .ok (.iload 4, 2) := by decide +kernel
theorem dX5_districtsBelow_29 : decode cX5_districtsBelow 29 = .ok (.ishl, 1) := by decide +kernel
theorem dX5_districtsBelow_30 : decode cX5_districtsBelow 30 = .ok (.iconst 1, 1) := by decide +kernel
theorem dX5_districtsBelow_31 : decode cX5_districtsBelow 31 = .ok (.isub, 1) := by decide +kernel
theorem dX5_districtsBelow_32 : decode cX5_districtsBelow 32 = .ok (.iand, 1) := by decide +kernel
theorem dX5_districtsBelow_33 : decode cX5_districtsBelow 33 = .ok (.ifCond .ne 7, 3) := by decide +kernel
theorem dX5_districtsBelow_36 : decode cX5_districtsBelow 36 = .ok (.iconst 1, 1) := by decide +kernel
theorem dX5_districtsBelow_37 : decode cX5_districtsBelow 37 = .ok (.goto 4, 3) := by decide +kernel
theorem dX5_districtsBelow_40 : decode cX5_districtsBelow 40 = .ok (.iconst 0, 1) := by decide +kernel
theorem dX5_districtsBelow_41 : decode cX5_districtsBelow 41 = .ok (.iadd, 1) := by decide +kernel
theorem dX5_districtsBelow_42 : decode cX5_districtsBelow 42 = .ok (.istore_n 3, 1) := by decide +kernel
theorem dX5_districtsBelow_43 : decode cX5_districtsBelow 43 = .ok (.iinc 4 1, 3) := by decide +kernel
theorem dX5_districtsBelow_46 : decode cX5_districtsBelow 46 = .ok (.goto (-36), 3) := by decide +kernel
theorem dX5_districtsBelow_49 : decode cX5_districtsBelow 49 = .ok (.iload_n 3, 1) := by decide +kernel
theorem dX5_districtsBelow_50 : decode cX5_districtsBelow 50 = .ok (.ireturn, 1) := by decide +kernel
theorem dX5_lowest_0 : decode cX5_lowest 0 = .ok (.iconst 0, 1) := by decide +kernel
theorem dX5_lowest_1 : decode cX5_lowest 1 = .ok (.istore_n 1, 1) := by decide +kernel
theorem dX5_lowest_2 : decode cX5_lowest 2 = .ok (.iload_n 0, 1) := by decide +kernel
theorem dX5_lowest_3 : decode cX5_lowest 3 = .ok (.iload_n 1, 1) := by decide +kernel
theorem dX5_lowest_4 : decode cX5_lowest 4 = .ok (.ishr, 1) := by decide +kernel
theorem dX5_lowest_5 : decode cX5_lowest 5 = .ok (.iconst 1, 1) := by decide +kernel
theorem dX5_lowest_6 : decode cX5_lowest 6 = .ok (.iand, 1) := by decide +kernel
theorem dX5_lowest_7 : decode cX5_lowest 7 = .ok (.ifCond .ne 9, 3) := by decide +kernel
theorem dX5_lowest_10 : decode cX5_lowest 10 = .ok (.iinc 1 1, 3) := by decide +kernel
theorem dX5_lowest_13 : decode cX5_lowest 13 = .ok (.goto (-11), 3) := by decide +kernel
theorem dX5_lowest_16 : decode cX5_lowest 16 = .ok (.iload_n 1, 1) := by decide +kernel
theorem dX5_lowest_17 : decode cX5_lowest 17 = .ok (.ireturn, 1) := by decide +kernel
theorem dX5_numberOf_0 : decode cX5_numberOf 0 = .ok (.aload_n 0, 1) := by decide +kernel
theorem dX5_numberOf_1 : decode cX5_numberOf 1 = .ok (.aload_n 0, 1) := by decide +kernel
theorem dX5_numberOf_2 : decode cX5_numberOf 2 = .ok (.iload_n 1, 1) := by decide +kernel
theorem dX5_numberOf_3 : decode cX5_numberOf 3 = .ok (.invokevirtual 98, 3) := by decide +kernel
theorem dX5_numberOf_6 : decode cX5_numberOf 6 = .ok (.invokestatic 101, 3) := by decide +kernel
theorem dX5_numberOf_9 : decode cX5_numberOf 9 = .ok (.invokevirtual 104, 3) := by decide +kernel
theorem dX5_numberOf_12 : decode cX5_numberOf 12 = .ok (.ireturn, 1) := by decide +kernel
theorem dX5_districts_0 : decode cX5_districts 0 = .ok (.aload_n 0, 1) := by decide +kernel
theorem dX5_districts_1 : decode cX5_districts 1 = .ok (.aload_n 0, 1) := by decide +kernel
theorem dX5_districts_2 : decode cX5_districts 2 = .ok (.getfield 7, 3) := by decide +kernel
theorem dX5_districts_5 : decode cX5_districts 5 = .ok (.iconst 0, 1) := by decide +kernel
theorem dX5_districts_6 : decode cX5_districts 6 = .ok (.iaload, 1) := by decide +kernel
theorem dX5_districts_7 : decode cX5_districts 7 = .ok (.invokevirtual 104, 3) := by decide +kernel
theorem dX5_districts_10 : decode cX5_districts 10 = .ok (.ireturn, 1) := by decide +kernel
theorem dX5_squaresOf_0 : decode cX5_squaresOf 0 = .ok (.aload_n 0, 1) := by decide +kernel
theorem dX5_squaresOf_1 : decode cX5_squaresOf 1 = .ok (.invokevirtual 95, 3) := by decide +kernel
theorem dX5_squaresOf_4 : decode cX5_squaresOf 4 = .ok (.istore_n 2, 1) := by decide +kernel
theorem dX5_squaresOf_5 : decode cX5_squaresOf 5 = .ok (.iconst 0, 1) := by decide +kernel
theorem dX5_squaresOf_6 : decode cX5_squaresOf 6 = .ok (.istore_n 3, 1) := by decide +kernel
theorem dX5_squaresOf_7 : decode cX5_squaresOf 7 = .ok (.iconst 0, 1) := by decide +kernel
theorem dX5_squaresOf_8 : decode cX5_squaresOf 8 = .ok (.istore 4, 2) := by decide +kernel
theorem dX5_squaresOf_10 : decode cX5_squaresOf 10 = .ok (.iload 4, 2) := by decide +kernel
theorem dX5_squaresOf_12 : decode cX5_squaresOf 12 = .ok (.aload_n 0, 1) := by decide +kernel
theorem dX5_squaresOf_13 : decode cX5_squaresOf 13 = .ok (.getfield 7, 3) := by decide +kernel
theorem dX5_squaresOf_16 : decode cX5_squaresOf 16 = .ok (.iconst 0, 1) := by decide +kernel
theorem dX5_squaresOf_17 : decode cX5_squaresOf 17 = .ok (.iaload, 1) := by decide +kernel
theorem dX5_squaresOf_18 : decode cX5_squaresOf 18 = .ok (.if_icmp .ge 43, 3) := by decide +kernel
theorem dX5_squaresOf_21 : decode cX5_squaresOf 21 = .ok (.aload_n 0, 1) := by decide +kernel
theorem dX5_squaresOf_22 : decode cX5_squaresOf 22 = .ok (.iload 4, 2) := by decide +kernel
theorem dX5_squaresOf_24 : decode cX5_squaresOf 24 = .ok (.iload_n 2, 1) := by decide +kernel
theorem dX5_squaresOf_25 : decode cX5_squaresOf 25 = .ok (.bipush (-6), 2) := by decide +kernel
theorem dX5_squaresOf_27 : decode cX5_squaresOf 27 = .ok (.invokevirtual 46, 3) := by decide +kernel
theorem dX5_squaresOf_30 : decode cX5_squaresOf 30 = .ok (.istore 5, 2) := by decide +kernel
theorem dX5_squaresOf_32 : decode cX5_squaresOf 32 = .ok (.iload 5, 2) := by decide +kernel
theorem dX5_squaresOf_34 : decode cX5_squaresOf 34 = .ok (.iconst 1, 1) := by decide +kernel
theorem dX5_squaresOf_35 : decode cX5_squaresOf 35 = .ok (.iload 4, 2) := by decide +kernel
theorem dX5_squaresOf_37 : decode cX5_squaresOf 37 = .ok (.ishl, 1) := by decide +kernel
theorem dX5_squaresOf_38 : decode cX5_squaresOf 38 = .ok (.iconst 1, 1) := by decide +kernel
theorem dX5_squaresOf_39 : decode cX5_squaresOf 39 = .ok (.isub, 1) := by decide +kernel
theorem dX5_squaresOf_40 : decode cX5_squaresOf 40 = .ok (.iand, 1) := by decide +kernel
theorem dX5_squaresOf_41 : decode cX5_squaresOf 41 = .ok (.ifCond .ne 14, 3) := by decide +kernel
theorem dX5_squaresOf_44 : decode cX5_squaresOf 44 = .ok (.iload_n 3, 1) := by decide +kernel
theorem dX5_squaresOf_45 : decode cX5_squaresOf 45 = .ok (.iload_n 1, 1) := by decide +kernel
theorem dX5_squaresOf_46 : decode cX5_squaresOf 46 = .ok (.if_icmp .ne 6, 3) := by decide +kernel
theorem dX5_squaresOf_49 : decode cX5_squaresOf 49 = .ok (.iload 5, 2) := by decide +kernel
theorem dX5_squaresOf_51 : decode cX5_squaresOf 51 = .ok (.ireturn, 1) := by decide +kernel
theorem dX5_squaresOf_52 : decode cX5_squaresOf 52 = .ok (.iinc 3 1, 3) := by decide +kernel
theorem dX5_squaresOf_55 : decode cX5_squaresOf 55 = .ok (.iinc 4 1, 3) := by decide +kernel
theorem dX5_squaresOf_58 : decode cX5_squaresOf 58 = .ok (.goto (-48), 3) := by decide +kernel
theorem dX5_squaresOf_61 : decode cX5_squaresOf 61 = .ok (.iconst 0, 1) := by decide +kernel
theorem dX5_squaresOf_62 : decode cX5_squaresOf 62 = .ok (.ireturn, 1) := by decide +kernel
theorem dX5_roadsWithin_0 : decode cX5_roadsWithin 0 = .ok (.iconst 0, 1) := by decide +kernel
theorem dX5_roadsWithin_1 : decode cX5_roadsWithin 1 = .ok (.istore_n 2, 1) := by decide +kernel
theorem dX5_roadsWithin_2 : decode cX5_roadsWithin 2 = .ok (.iconst 0, 1) := by decide +kernel
theorem dX5_roadsWithin_3 : decode cX5_roadsWithin 3 = .ok (.istore_n 3, 1) := by decide +kernel
theorem dX5_roadsWithin_4 : decode cX5_roadsWithin 4 = .ok (.iload_n 3, 1) := by decide +kernel
theorem dX5_roadsWithin_5 : decode cX5_roadsWithin 5 = .ok (.aload_n 0, 1) := by decide +kernel
theorem dX5_roadsWithin_6 : decode cX5_roadsWithin 6 = .ok (.getfield 7, 3) := by decide +kernel
theorem dX5_roadsWithin_9 : decode cX5_roadsWithin 9 = .ok (.iconst 1, 1) := by decide +kernel
theorem dX5_roadsWithin_10 : decode cX5_roadsWithin 10 = .ok (.iaload, 1) := by decide +kernel
theorem dX5_roadsWithin_11 : decode cX5_roadsWithin 11 = .ok (.if_icmp .ge 32, 3) := by decide +kernel
theorem dX5_roadsWithin_14 : decode cX5_roadsWithin 14 = .ok (.iload_n 2, 1) := by decide +kernel
theorem dX5_roadsWithin_15 : decode cX5_roadsWithin 15 = .ok (.aload_n 0, 1) := by decide +kernel
theorem dX5_roadsWithin_16 : decode cX5_roadsWithin 16 = .ok (.iload_n 3, 1) := by decide +kernel
theorem dX5_roadsWithin_17 : decode cX5_roadsWithin 17 = .ok (.invokevirtual 42, 3) := by decide +kernel
theorem dX5_roadsWithin_20 : decode cX5_roadsWithin 20 = .ok (.iload_n 1, 1) := by decide +kernel
theorem dX5_roadsWithin_21 : decode cX5_roadsWithin 21 = .ok (.iand, 1) := by decide +kernel
theorem dX5_roadsWithin_22 : decode cX5_roadsWithin 22 = .ok (.aload_n 0, 1) := by decide +kernel
theorem dX5_roadsWithin_23 : decode cX5_roadsWithin 23 = .ok (.iload_n 3, 1) := by decide +kernel
theorem dX5_roadsWithin_24 : decode cX5_roadsWithin 24 = .ok (.invokevirtual 42, 3) := by decide +kernel
theorem dX5_roadsWithin_27 : decode cX5_roadsWithin 27 = .ok (.if_icmp .ne 7, 3) := by decide +kernel
theorem dX5_roadsWithin_30 : decode cX5_roadsWithin 30 = .ok (.iconst 1, 1) := by decide +kernel
theorem dX5_roadsWithin_31 : decode cX5_roadsWithin 31 = .ok (.goto 4, 3) := by decide +kernel
theorem dX5_roadsWithin_34 : decode cX5_roadsWithin 34 = .ok (.iconst 0, 1) := by decide +kernel
theorem dX5_roadsWithin_35 : decode cX5_roadsWithin 35 = .ok (.iadd, 1) := by decide +kernel
theorem dX5_roadsWithin_36 : decode cX5_roadsWithin 36 = .ok (.istore_n 2, 1) := by decide +kernel
theorem dX5_roadsWithin_37 : decode cX5_roadsWithin 37 = .ok (.iinc 3 1, 3) := by decide +kernel
theorem dX5_roadsWithin_40 : decode cX5_roadsWithin 40 = .ok (.goto (-36), 3) := by decide +kernel
theorem dX5_roadsWithin_43 : decode cX5_roadsWithin 43 = .ok (.iload_n 2, 1) := by decide +kernel
theorem dX5_roadsWithin_44 : decode cX5_roadsWithin 44 = .ok (.ireturn, 1) := by decide +kernel
theorem dX5_lengthWithin_0 : decode cX5_lengthWithin 0 = .ok (.iconst 0, 1) := by decide +kernel
theorem dX5_lengthWithin_1 : decode cX5_lengthWithin 1 = .ok (.istore_n 2, 1) := by decide +kernel
theorem dX5_lengthWithin_2 : decode cX5_lengthWithin 2 = .ok (.iconst 0, 1) := by decide +kernel
theorem dX5_lengthWithin_3 : decode cX5_lengthWithin 3 = .ok (.istore_n 3, 1) := by decide +kernel
theorem dX5_lengthWithin_4 : decode cX5_lengthWithin 4 = .ok (.iload_n 3, 1) := by decide +kernel
theorem dX5_lengthWithin_5 : decode cX5_lengthWithin 5 = .ok (.aload_n 0, 1) := by decide +kernel
theorem dX5_lengthWithin_6 : decode cX5_lengthWithin 6 = .ok (.getfield 7, 3) := by decide +kernel
theorem dX5_lengthWithin_9 : decode cX5_lengthWithin 9 = .ok (.iconst 1, 1) := by decide +kernel
theorem dX5_lengthWithin_10 : decode cX5_lengthWithin 10 = .ok (.iaload, 1) := by decide +kernel
theorem dX5_lengthWithin_11 : decode cX5_lengthWithin 11 = .ok (.if_icmp .ge 40, 3) := by decide +kernel
theorem dX5_lengthWithin_14 : decode cX5_lengthWithin 14 = .ok (.iload_n 2, 1) := by decide +kernel
theorem dX5_lengthWithin_15 : decode cX5_lengthWithin 15 = .ok (.aload_n 0, 1) := by decide +kernel
theorem dX5_lengthWithin_16 : decode cX5_lengthWithin 16 = .ok (.iload_n 3, 1) := by decide +kernel
theorem dX5_lengthWithin_17 : decode cX5_lengthWithin 17 = .ok (.invokevirtual 42, 3) := by decide +kernel
theorem dX5_lengthWithin_20 : decode cX5_lengthWithin 20 = .ok (.iload_n 1, 1) := by decide +kernel
theorem dX5_lengthWithin_21 : decode cX5_lengthWithin 21 = .ok (.iand, 1) := by decide +kernel
theorem dX5_lengthWithin_22 : decode cX5_lengthWithin 22 = .ok (.aload_n 0, 1) := by decide +kernel
theorem dX5_lengthWithin_23 : decode cX5_lengthWithin 23 = .ok (.iload_n 3, 1) := by decide +kernel
theorem dX5_lengthWithin_24 : decode cX5_lengthWithin 24 = .ok (.invokevirtual 42, 3) := by decide +kernel
theorem dX5_lengthWithin_27 : decode cX5_lengthWithin 27 = .ok (.if_icmp .ne 15, 3) := by decide +kernel
theorem dX5_lengthWithin_30 : decode cX5_lengthWithin 30 = .ok (.aload_n 0, 1) := by decide +kernel
theorem dX5_lengthWithin_31 : decode cX5_lengthWithin 31 = .ok (.getfield 7, 3) := by decide +kernel
theorem dX5_lengthWithin_34 : decode cX5_lengthWithin 34 = .ok (.bipush 62, 2) := by decide +kernel
theorem dX5_lengthWithin_36 : decode cX5_lengthWithin 36 = .ok (.iload_n 3, 1) := by decide +kernel
theorem dX5_lengthWithin_37 : decode cX5_lengthWithin 37 = .ok (.iadd, 1) := by decide +kernel
theorem dX5_lengthWithin_38 : decode cX5_lengthWithin 38 = .ok (.iaload, 1) := by decide +kernel
theorem dX5_lengthWithin_39 : decode cX5_lengthWithin 39 = .ok (.goto 4, 3) := by decide +kernel
theorem dX5_lengthWithin_42 : decode cX5_lengthWithin 42 = .ok (.iconst 0, 1) := by decide +kernel
theorem dX5_lengthWithin_43 : decode cX5_lengthWithin 43 = .ok (.iadd, 1) := by decide +kernel
theorem dX5_lengthWithin_44 : decode cX5_lengthWithin 44 = .ok (.istore_n 2, 1) := by decide +kernel
theorem dX5_lengthWithin_45 : decode cX5_lengthWithin 45 = .ok (.iinc 3 1, 3) := by decide +kernel
theorem dX5_lengthWithin_48 : decode cX5_lengthWithin 48 = .ok (.goto (-44), 3) := by decide +kernel
theorem dX5_lengthWithin_51 : decode cX5_lengthWithin 51 = .ok (.iload_n 2, 1) := by decide +kernel
theorem dX5_lengthWithin_52 : decode cX5_lengthWithin 52 = .ok (.ireturn, 1) := by decide +kernel
theorem dX5_roadsOut_0 : decode cX5_roadsOut 0 = .ok (.iconst 0, 1) := by decide +kernel
theorem dX5_roadsOut_1 : decode cX5_roadsOut 1 = .ok (.istore_n 2, 1) := by decide +kernel
theorem dX5_roadsOut_2 : decode cX5_roadsOut 2 = .ok (.iconst 0, 1) := by decide +kernel
theorem dX5_roadsOut_3 : decode cX5_roadsOut 3 = .ok (.istore_n 3, 1) := by decide +kernel
theorem dX5_roadsOut_4 : decode cX5_roadsOut 4 = .ok (.iload_n 3, 1) := by decide +kernel
theorem dX5_roadsOut_5 : decode cX5_roadsOut 5 = .ok (.aload_n 0, 1) := by decide +kernel
theorem dX5_roadsOut_6 : decode cX5_roadsOut 6 = .ok (.getfield 7, 3) := by decide +kernel
theorem dX5_roadsOut_9 : decode cX5_roadsOut 9 = .ok (.iconst 1, 1) := by decide +kernel
theorem dX5_roadsOut_10 : decode cX5_roadsOut 10 = .ok (.iaload, 1) := by decide +kernel
theorem dX5_roadsOut_11 : decode cX5_roadsOut 11 = .ok (.if_icmp .ge 41, 3) := by decide +kernel
theorem dX5_roadsOut_14 : decode cX5_roadsOut 14 = .ok (.aload_n 0, 1) := by decide +kernel
theorem dX5_roadsOut_15 : decode cX5_roadsOut 15 = .ok (.iload_n 3, 1) := by decide +kernel
theorem dX5_roadsOut_16 : decode cX5_roadsOut 16 = .ok (.invokevirtual 42, 3) := by decide +kernel
theorem dX5_roadsOut_19 : decode cX5_roadsOut 19 = .ok (.iload_n 1, 1) := by decide +kernel
theorem dX5_roadsOut_20 : decode cX5_roadsOut 20 = .ok (.iand, 1) := by decide +kernel
theorem dX5_roadsOut_21 : decode cX5_roadsOut 21 = .ok (.istore 4, 2) := by decide +kernel
theorem dX5_roadsOut_23 : decode cX5_roadsOut 23 = .ok (.iload_n 2, 1) := by decide +kernel
theorem dX5_roadsOut_24 : decode cX5_roadsOut 24 = .ok (.iload 4, 2) := by decide +kernel
theorem dX5_roadsOut_26 : decode cX5_roadsOut 26 = .ok (.ifCond .eq 17, 3) := by decide +kernel
theorem dX5_roadsOut_29 : decode cX5_roadsOut 29 = .ok (.iload 4, 2) := by decide +kernel
theorem dX5_roadsOut_31 : decode cX5_roadsOut 31 = .ok (.aload_n 0, 1) := by decide +kernel
theorem dX5_roadsOut_32 : decode cX5_roadsOut 32 = .ok (.iload_n 3, 1) := by decide +kernel
theorem dX5_roadsOut_33 : decode cX5_roadsOut 33 = .ok (.invokevirtual 42, 3) := by decide +kernel
theorem dX5_roadsOut_36 : decode cX5_roadsOut 36 = .ok (.if_icmp .eq 7, 3) := by decide +kernel
theorem dX5_roadsOut_39 : decode cX5_roadsOut 39 = .ok (.iconst 1, 1) := by decide +kernel
theorem dX5_roadsOut_40 : decode cX5_roadsOut 40 = .ok (.goto 4, 3) := by decide +kernel
theorem dX5_roadsOut_43 : decode cX5_roadsOut 43 = .ok (.iconst 0, 1) := by decide +kernel
theorem dX5_roadsOut_44 : decode cX5_roadsOut 44 = .ok (.iadd, 1) := by decide +kernel
theorem dX5_roadsOut_45 : decode cX5_roadsOut 45 = .ok (.istore_n 2, 1) := by decide +kernel
theorem dX5_roadsOut_46 : decode cX5_roadsOut 46 = .ok (.iinc 3 1, 3) := by decide +kernel
theorem dX5_roadsOut_49 : decode cX5_roadsOut 49 = .ok (.goto (-45), 3) := by decide +kernel
theorem dX5_roadsOut_52 : decode cX5_roadsOut 52 = .ok (.iload_n 2, 1) := by decide +kernel
theorem dX5_roadsOut_53 : decode cX5_roadsOut 53 = .ok (.ireturn, 1) := by decide +kernel
theorem dX5_longestDistrict_0 : decode cX5_longestDistrict 0 = .ok (.iconst 0, 1) := by decide +kernel
theorem dX5_longestDistrict_1 : decode cX5_longestDistrict 1 = .ok (.istore_n 1, 1) := by decide +kernel
theorem dX5_longestDistrict_2 : decode cX5_longestDistrict 2 = .ok (.iconst (-1), 1) := by decide +kernel
theorem dX5_longestDistrict_3 : decode cX5_longestDistrict 3 = .ok (.istore_n 2, 1) := by decide +kernel
theorem dX5_longestDistrict_4 : decode cX5_longestDistrict 4 = .ok (.aload_n 0, 1) := by decide +kernel
theorem dX5_longestDistrict_5 : decode cX5_longestDistrict 5 = .ok (.invokevirtual 107, 3) := by decide +kernel
theorem dX5_longestDistrict_8 : decode cX5_longestDistrict 8 = .ok (.istore_n 3, 1) := by decide +kernel
theorem dX5_longestDistrict_9 : decode cX5_longestDistrict 9 = .ok (.iconst 0, 1) := by decide +kernel
theorem dX5_longestDistrict_10 : decode cX5_longestDistrict 10 = .ok (.istore 4, 2) := by decide +kernel
theorem dX5_longestDistrict_12 : decode cX5_longestDistrict 12 = .ok (.iload 4, 2) := by decide +kernel
theorem dX5_longestDistrict_14 : decode cX5_longestDistrict 14 = .ok (.iload_n 3, 1) := by decide +kernel
theorem dX5_longestDistrict_15 : decode cX5_longestDistrict 15 = .ok (.if_icmp .ge 47, 3) := by decide +kernel
theorem dX5_longestDistrict_18 : decode cX5_longestDistrict 18 = .ok (.aload_n 0, 1) := by decide +kernel
theorem dX5_longestDistrict_19 : decode cX5_longestDistrict 19 = .ok (.aload_n 0, 1) := by decide +kernel
theorem dX5_longestDistrict_20 : decode cX5_longestDistrict 20 = .ok (.iload 4, 2) := by decide +kernel
theorem dX5_longestDistrict_22 : decode cX5_longestDistrict 22 = .ok (.invokevirtual 110, 3) := by decide +kernel
theorem dX5_longestDistrict_25 : decode cX5_longestDistrict 25 = .ok (.invokevirtual 113, 3) := by decide +kernel
theorem dX5_longestDistrict_28 : decode cX5_longestDistrict 28 = .ok (.istore 5, 2) := by decide +kernel
theorem dX5_longestDistrict_30 : decode cX5_longestDistrict 30 = .ok (.iload 5, 2) := by decide +kernel
theorem dX5_longestDistrict_32 : decode cX5_longestDistrict 32 = .ok (.iload_n 2, 1) := by decide +kernel
theorem dX5_longestDistrict_33 : decode cX5_longestDistrict 33 = .ok (.if_icmp .le 8, 3) := by decide +kernel
theorem dX5_longestDistrict_36 : decode cX5_longestDistrict 36 = .ok (.iload 4, 2) := by decide +kernel
theorem dX5_longestDistrict_38 : decode cX5_longestDistrict 38 = .ok (.goto 4, 3) := by decide +kernel
theorem dX5_longestDistrict_41 : decode cX5_longestDistrict 41 = .ok (.iload_n 1, 1) := by decide +kernel
theorem dX5_longestDistrict_42 : decode cX5_longestDistrict 42 = .ok (.istore_n 1, 1) := by decide +kernel
theorem dX5_longestDistrict_43 : decode cX5_longestDistrict 43 = .ok (.iload 5, 2) := by decide +kernel
theorem dX5_longestDistrict_45 : decode cX5_longestDistrict 45 = .ok (.iload_n 2, 1) := by decide +kernel
theorem dX5_longestDistrict_46 : decode cX5_longestDistrict 46 = .ok (.if_icmp .le 8, 3) := by decide +kernel
theorem dX5_longestDistrict_49 : decode cX5_longestDistrict 49 = .ok (.iload 5, 2) := by decide +kernel
theorem dX5_longestDistrict_51 : decode cX5_longestDistrict 51 = .ok (.goto 4, 3) := by decide +kernel
theorem dX5_longestDistrict_54 : decode cX5_longestDistrict 54 = .ok (.iload_n 2, 1) := by decide +kernel
theorem dX5_longestDistrict_55 : decode cX5_longestDistrict 55 = .ok (.istore_n 2, 1) := by decide +kernel
theorem dX5_longestDistrict_56 : decode cX5_longestDistrict 56 = .ok (.iinc 4 1, 3) := by decide +kernel
theorem dX5_longestDistrict_59 : decode cX5_longestDistrict 59 = .ok (.goto (-47), 3) := by decide +kernel
theorem dX5_longestDistrict_62 : decode cX5_longestDistrict 62 = .ok (.iload_n 1, 1) := by decide +kernel
theorem dX5_longestDistrict_63 : decode cX5_longestDistrict 63 = .ok (.ireturn, 1) := by decide +kernel
theorem dX5_road_0 : decode cX5_road 0 = .ok (.aload_n 0, 1) := by decide +kernel
theorem dX5_road_1 : decode cX5_road 1 = .ok (.iload_n 1, 1) := by decide +kernel
theorem dX5_road_2 : decode cX5_road 2 = .ok (.invokevirtual 87, 3) := by decide +kernel
theorem dX5_road_5 : decode cX5_road 5 = .ok (.ifCond .ne 5, 3) := by decide +kernel
theorem dX5_road_8 : decode cX5_road 8 = .ok (.iconst (-1), 1) := by decide +kernel
theorem dX5_road_9 : decode cX5_road 9 = .ok (.ireturn, 1) := by decide +kernel
theorem dX5_road_10 : decode cX5_road 10 = .ok (.iload_n 2, 1) := by decide +kernel
theorem dX5_road_11 : decode cX5_road 11 = .ok (.tableswitch 92 0 5 #[37, 46, 56, 66, 80, 86], 37) := by decide +kernel
theorem dX5_road_48 : decode cX5_road 48 = .ok (.aload_n 0, 1) := by decide +kernel
theorem dX5_road_49 : decode cX5_road 49 = .ok (.getfield 7, 3) := by decide +kernel
theorem dX5_road_52 : decode cX5_road 52 = .ok (.iconst 2, 1) := by decide +kernel
theorem dX5_road_53 : decode cX5_road 53 = .ok (.iload_n 1, 1) := by decide +kernel
theorem dX5_road_54 : decode cX5_road 54 = .ok (.iadd, 1) := by decide +kernel
theorem dX5_road_55 : decode cX5_road 55 = .ok (.iaload, 1) := by decide +kernel
theorem dX5_road_56 : decode cX5_road 56 = .ok (.ireturn, 1) := by decide +kernel
theorem dX5_road_57 : decode cX5_road 57 = .ok (.aload_n 0, 1) := by decide +kernel
theorem dX5_road_58 : decode cX5_road 58 = .ok (.getfield 7, 3) := by decide +kernel
theorem dX5_road_61 : decode cX5_road 61 = .ok (.bipush 32, 2) := by decide +kernel
theorem dX5_road_63 : decode cX5_road 63 = .ok (.iload_n 1, 1) := by decide +kernel
theorem dX5_road_64 : decode cX5_road 64 = .ok (.iadd, 1) := by decide +kernel
theorem dX5_road_65 : decode cX5_road 65 = .ok (.iaload, 1) := by decide +kernel
theorem dX5_road_66 : decode cX5_road 66 = .ok (.ireturn, 1) := by decide +kernel
theorem dX5_road_67 : decode cX5_road 67 = .ok (.aload_n 0, 1) := by decide +kernel
theorem dX5_road_68 : decode cX5_road 68 = .ok (.getfield 7, 3) := by decide +kernel
theorem dX5_road_71 : decode cX5_road 71 = .ok (.bipush 62, 2) := by decide +kernel
theorem dX5_road_73 : decode cX5_road 73 = .ok (.iload_n 1, 1) := by decide +kernel
theorem dX5_road_74 : decode cX5_road 74 = .ok (.iadd, 1) := by decide +kernel
theorem dX5_road_75 : decode cX5_road 75 = .ok (.iaload, 1) := by decide +kernel
theorem dX5_road_76 : decode cX5_road 76 = .ok (.ireturn, 1) := by decide +kernel
theorem dX5_road_77 : decode cX5_road 77 = .ok (.aload_n 0, 1) := by decide +kernel
theorem dX5_road_78 : decode cX5_road 78 = .ok (.iload_n 1, 1) := by decide +kernel
theorem dX5_road_79 : decode cX5_road 79 = .ok (.invokevirtual 54, 3) := by decide +kernel
theorem dX5_road_82 : decode cX5_road 82 = .ok (.ifCond .eq 7, 3) := by decide +kernel
theorem dX5_road_85 : decode cX5_road 85 = .ok (.iconst 1, 1) := by decide +kernel
theorem dX5_road_86 : decode cX5_road 86 = .ok (.goto 4, 3) := by decide +kernel
theorem dX5_road_89 : decode cX5_road 89 = .ok (.iconst 0, 1) := by decide +kernel
theorem dX5_road_90 : decode cX5_road 90 = .ok (.ireturn, 1) := by decide +kernel
theorem dX5_road_91 : decode cX5_road 91 = .ok (.aload_n 0, 1) := by decide +kernel
theorem dX5_road_92 : decode cX5_road 92 = .ok (.iload_n 1, 1) := by decide +kernel
theorem dX5_road_93 : decode cX5_road 93 = .ok (.invokevirtual 116, 3) := by decide +kernel
theorem dX5_road_96 : decode cX5_road 96 = .ok (.ireturn, 1) := by decide +kernel
theorem dX5_road_97 : decode cX5_road 97 = .ok (.aload_n 0, 1) := by decide +kernel
theorem dX5_road_98 : decode cX5_road 98 = .ok (.iload_n 1, 1) := by decide +kernel
theorem dX5_road_99 : decode cX5_road 99 = .ok (.invokevirtual 119, 3) := by decide +kernel
theorem dX5_road_102 : decode cX5_road 102 = .ok (.ireturn, 1) := by decide +kernel
theorem dX5_road_103 : decode cX5_road 103 = .ok (.bipush (-2), 2) := by decide +kernel
theorem dX5_road_105 : decode cX5_road 105 = .ok (.ireturn, 1) := by decide +kernel
theorem dX5_square_0 : decode cX5_square 0 = .ok (.aload_n 0, 1) := by decide +kernel
theorem dX5_square_1 : decode cX5_square 1 = .ok (.iload_n 1, 1) := by decide +kernel
theorem dX5_square_2 : decode cX5_square 2 = .ok (.invokevirtual 78, 3) := by decide +kernel
theorem dX5_square_5 : decode cX5_square 5 = .ok (.ifCond .ne 5, 3) := by decide +kernel
theorem dX5_square_8 : decode cX5_square 8 = .ok (.iconst (-1), 1) := by decide +kernel
theorem dX5_square_9 : decode cX5_square 9 = .ok (.ireturn, 1) := by decide +kernel
theorem dX5_square_10 : decode cX5_square 10 = .ok (.iload_n 2, 1) := by decide +kernel
theorem dX5_square_11 : decode cX5_square 11 = .ok (.tableswitch 73 0 4 #[33, 41, 55, 61, 67], 33) := by decide +kernel
theorem dX5_square_44 : decode cX5_square 44 = .ok (.aload_n 0, 1) := by decide +kernel
theorem dX5_square_45 : decode cX5_square 45 = .ok (.iconst 1, 1) := by decide +kernel
theorem dX5_square_46 : decode cX5_square 46 = .ok (.iload_n 1, 1) := by decide +kernel
theorem dX5_square_47 : decode cX5_square 47 = .ok (.ishl, 1) := by decide +kernel
theorem dX5_square_48 : decode cX5_square 48 = .ok (.invokevirtual 122, 3) := by decide +kernel
theorem dX5_square_51 : decode cX5_square 51 = .ok (.ireturn, 1) := by decide +kernel
theorem dX5_square_52 : decode cX5_square 52 = .ok (.aload_n 0, 1) := by decide +kernel
theorem dX5_square_53 : decode cX5_square 53 = .ok (.iload_n 1, 1) := by decide +kernel
theorem dX5_square_54 : decode cX5_square 54 = .ok (.invokevirtual 125, 3) := by decide +kernel
theorem dX5_square_57 : decode cX5_square 57 = .ok (.ifCond .le 7, 3) := by decide +kernel
theorem dX5_square_60 : decode cX5_square 60 = .ok (.iconst 1, 1) := by decide +kernel
theorem dX5_square_61 : decode cX5_square 61 = .ok (.goto 4, 3) := by decide +kernel
theorem dX5_square_64 : decode cX5_square 64 = .ok (.iconst 0, 1) := by decide +kernel
theorem dX5_square_65 : decode cX5_square 65 = .ok (.ireturn, 1) := by decide +kernel
theorem dX5_square_66 : decode cX5_square 66 = .ok (.aload_n 0, 1) := by decide +kernel
theorem dX5_square_67 : decode cX5_square 67 = .ok (.iload_n 1, 1) := by decide +kernel
theorem dX5_square_68 : decode cX5_square 68 = .ok (.invokevirtual 128, 3) := by decide +kernel
theorem dX5_square_71 : decode cX5_square 71 = .ok (.ireturn, 1) := by decide +kernel
theorem dX5_square_72 : decode cX5_square 72 = .ok (.aload_n 0, 1) := by decide +kernel
theorem dX5_square_73 : decode cX5_square 73 = .ok (.iload_n 1, 1) := by decide +kernel
theorem dX5_square_74 : decode cX5_square 74 = .ok (.invokevirtual 65, 3) := by decide +kernel
theorem dX5_square_77 : decode cX5_square 77 = .ok (.ireturn, 1) := by decide +kernel
theorem dX5_square_78 : decode cX5_square 78 = .ok (.aload_n 0, 1) := by decide +kernel
theorem dX5_square_79 : decode cX5_square 79 = .ok (.iload_n 1, 1) := by decide +kernel
theorem dX5_square_80 : decode cX5_square 80 = .ok (.invokevirtual 125, 3) := by decide +kernel
theorem dX5_square_83 : decode cX5_square 83 = .ok (.ireturn, 1) := by decide +kernel
theorem dX5_square_84 : decode cX5_square 84 = .ok (.bipush (-2), 2) := by decide +kernel
theorem dX5_square_86 : decode cX5_square 86 = .ok (.ireturn, 1) := by decide +kernel
theorem dX5_district_0 : decode cX5_district 0 = .ok (.iload_n 1, 1) := by decide +kernel
theorem dX5_district_1 : decode cX5_district 1 = .ok (.i2l, 1) := by decide +kernel
theorem dX5_district_2 : decode cX5_district 2 = .ok (.lconst 0, 1) := by decide +kernel
theorem dX5_district_3 : decode cX5_district 3 = .ok (.aload_n 0, 1) := by decide +kernel
theorem dX5_district_4 : decode cX5_district 4 = .ok (.invokevirtual 107, 3) := by decide +kernel
theorem dX5_district_7 : decode cX5_district 7 = .ok (.i2l, 1) := by decide +kernel
theorem dX5_district_8 : decode cX5_district 8 = .ok (.lconst 1, 1) := by decide +kernel
theorem dX5_district_9 : decode cX5_district 9 = .ok (.lsub, 1) := by decide +kernel
theorem dX5_district_10 : decode cX5_district 10 = .ok (.invokestatic 38, 3) := by decide +kernel
theorem dX5_district_13 : decode cX5_district 13 = .ok (.ifCond .ne 5, 3) := by decide +kernel
theorem dX5_district_16 : decode cX5_district 16 = .ok (.iconst (-1), 1) := by decide +kernel
theorem dX5_district_17 : decode cX5_district 17 = .ok (.ireturn, 1) := by decide +kernel
theorem dX5_district_18 : decode cX5_district 18 = .ok (.aload_n 0, 1) := by decide +kernel
theorem dX5_district_19 : decode cX5_district 19 = .ok (.iload_n 1, 1) := by decide +kernel
theorem dX5_district_20 : decode cX5_district 20 = .ok (.invokevirtual 110, 3) := by decide +kernel
theorem dX5_district_23 : decode cX5_district 23 = .ok (.istore_n 3, 1) := by decide +kernel
theorem dX5_district_24 : decode cX5_district 24 = .ok (.iload_n 2, 1) := by decide +kernel
theorem dX5_district_25 : decode cX5_district 25 = .ok (.tableswitch 58 0 3 #[31, 33, 39, 45], 31) := by decide +kernel
theorem dX5_district_56 : decode cX5_district 56 = .ok (.iload_n 3, 1) := by decide +kernel
theorem dX5_district_57 : decode cX5_district 57 = .ok (.ireturn, 1) := by decide +kernel
theorem dX5_district_58 : decode cX5_district 58 = .ok (.aload_n 0, 1) := by decide +kernel
theorem dX5_district_59 : decode cX5_district 59 = .ok (.iload_n 3, 1) := by decide +kernel
theorem dX5_district_60 : decode cX5_district 60 = .ok (.invokevirtual 113, 3) := by decide +kernel
theorem dX5_district_63 : decode cX5_district 63 = .ok (.ireturn, 1) := by decide +kernel
theorem dX5_district_64 : decode cX5_district 64 = .ok (.aload_n 0, 1) := by decide +kernel
theorem dX5_district_65 : decode cX5_district 65 = .ok (.iload_n 3, 1) := by decide +kernel
theorem dX5_district_66 : decode cX5_district 66 = .ok (.invokevirtual 122, 3) := by decide +kernel
theorem dX5_district_69 : decode cX5_district 69 = .ok (.ireturn, 1) := by decide +kernel
theorem dX5_district_70 : decode cX5_district 70 = .ok (.aload_n 0, 1) := by decide +kernel
theorem dX5_district_71 : decode cX5_district 71 = .ok (.iload_n 3, 1) := by decide +kernel
theorem dX5_district_72 : decode cX5_district 72 = .ok (.invokevirtual 131, 3) := by decide +kernel
theorem dX5_district_75 : decode cX5_district 75 = .ok (.iload_n 3, 1) := by decide +kernel
theorem dX5_district_76 : decode cX5_district 76 = .ok (.invokestatic 58, 3) := by decide +kernel
theorem dX5_district_79 : decode cX5_district 79 = .ok (.isub, 1) := by decide +kernel
theorem dX5_district_80 : decode cX5_district 80 = .ok (.iconst 1, 1) := by decide +kernel
theorem dX5_district_81 : decode cX5_district 81 = .ok (.iadd, 1) := by decide +kernel
theorem dX5_district_82 : decode cX5_district 82 = .ok (.ireturn, 1) := by decide +kernel
theorem dX5_district_83 : decode cX5_district 83 = .ok (.bipush (-2), 2) := by decide +kernel
theorem dX5_district_85 : decode cX5_district 85 = .ok (.ireturn, 1) := by decide +kernel
theorem dX5_squaresThatPart_0 : decode cX5_squaresThatPart 0 = .ok (.iconst 0, 1) := by decide +kernel
theorem dX5_squaresThatPart_1 : decode cX5_squaresThatPart 1 = .ok (.istore_n 1, 1) := by decide +kernel
theorem dX5_squaresThatPart_2 : decode cX5_squaresThatPart 2 = .ok (.iconst 0, 1) := by decide +kernel
theorem dX5_squaresThatPart_3 : decode cX5_squaresThatPart 3 = .ok (.istore_n 2, 1) := by decide +kernel
theorem dX5_squaresThatPart_4 : decode cX5_squaresThatPart 4 = .ok (.iload_n 2, 1) := by decide +kernel
theorem dX5_squaresThatPart_5 : decode cX5_squaresThatPart 5 = .ok (.aload_n 0, 1) := by decide +kernel
theorem dX5_squaresThatPart_6 : decode cX5_squaresThatPart 6 = .ok (.getfield 7, 3) := by decide +kernel
theorem dX5_squaresThatPart_9 : decode cX5_squaresThatPart 9 = .ok (.iconst 0, 1) := by decide +kernel
theorem dX5_squaresThatPart_10 : decode cX5_squaresThatPart 10 = .ok (.iaload, 1) := by decide +kernel
theorem dX5_squaresThatPart_11 : decode cX5_squaresThatPart 11 = .ok (.if_icmp .ge 25, 3) := by decide +kernel
theorem dX5_squaresThatPart_14 : decode cX5_squaresThatPart 14 = .ok (.iload_n 1, 1) := by decide +kernel
theorem dX5_squaresThatPart_15 : decode cX5_squaresThatPart 15 = .ok (.aload_n 0, 1) := by decide +kernel
theorem dX5_squaresThatPart_16 : decode cX5_squaresThatPart 16 = .ok (.iload_n 2, 1) := by decide +kernel
theorem dX5_squaresThatPart_17 : decode cX5_squaresThatPart 17 = .ok (.invokevirtual 125, 3) := by decide +kernel
theorem dX5_squaresThatPart_20 : decode cX5_squaresThatPart 20 = .ok (.ifCond .le 7, 3) := by decide +kernel
theorem dX5_squaresThatPart_23 : decode cX5_squaresThatPart 23 = .ok (.iconst 1, 1) := by decide +kernel
theorem dX5_squaresThatPart_24 : decode cX5_squaresThatPart 24 = .ok (.goto 4, 3) := by decide +kernel
theorem dX5_squaresThatPart_27 : decode cX5_squaresThatPart 27 = .ok (.iconst 0, 1) := by decide +kernel
theorem dX5_squaresThatPart_28 : decode cX5_squaresThatPart 28 = .ok (.iadd, 1) := by decide +kernel
theorem dX5_squaresThatPart_29 : decode cX5_squaresThatPart 29 = .ok (.istore_n 1, 1) := by decide +kernel
theorem dX5_squaresThatPart_30 : decode cX5_squaresThatPart 30 = .ok (.iinc 2 1, 3) := by decide +kernel
theorem dX5_squaresThatPart_33 : decode cX5_squaresThatPart 33 = .ok (.goto (-29), 3) := by decide +kernel
theorem dX5_squaresThatPart_36 : decode cX5_squaresThatPart 36 = .ok (.iload_n 1, 1) := by decide +kernel
theorem dX5_squaresThatPart_37 : decode cX5_squaresThatPart 37 = .ok (.ireturn, 1) := by decide +kernel
theorem dX5_count_0 : decode cX5_count 0 = .ok (.iload_n 1, 1) := by decide +kernel
theorem dX5_count_1 : decode cX5_count 1 = .ok (.tableswitch 114 0 9 #[55, 62, 69, 74, 82, 87, 92, 97, 104, 109], 55) := by decide +kernel
theorem dX5_count_56 : decode cX5_count 56 = .ok (.aload_n 0, 1) := by decide +kernel
theorem dX5_count_57 : decode cX5_count 57 = .ok (.getfield 7, 3) := by decide +kernel
theorem dX5_count_60 : decode cX5_count 60 = .ok (.iconst 0, 1) := by decide +kernel
theorem dX5_count_61 : decode cX5_count 61 = .ok (.iaload, 1) := by decide +kernel
theorem dX5_count_62 : decode cX5_count 62 = .ok (.ireturn, 1) := by decide +kernel
theorem dX5_count_63 : decode cX5_count 63 = .ok (.aload_n 0, 1) := by decide +kernel
theorem dX5_count_64 : decode cX5_count 64 = .ok (.getfield 7, 3) := by decide +kernel
theorem dX5_count_67 : decode cX5_count 67 = .ok (.iconst 1, 1) := by decide +kernel
theorem dX5_count_68 : decode cX5_count 68 = .ok (.iaload, 1) := by decide +kernel
theorem dX5_count_69 : decode cX5_count 69 = .ok (.ireturn, 1) := by decide +kernel
theorem dX5_count_70 : decode cX5_count 70 = .ok (.aload_n 0, 1) := by decide +kernel
theorem dX5_count_71 : decode cX5_count 71 = .ok (.invokevirtual 61, 3) := by decide +kernel
theorem dX5_count_74 : decode cX5_count 74 = .ok (.ireturn, 1) := by decide +kernel
theorem dX5_count_75 : decode cX5_count 75 = .ok (.aload_n 0, 1) := by decide +kernel
theorem dX5_count_76 : decode cX5_count 76 = .ok (.invokevirtual 95, 3) := by decide +kernel
theorem dX5_count_79 : decode cX5_count 79 = .ok (.invokestatic 58, 3) := by decide +kernel
theorem dX5_count_82 : decode cX5_count 82 = .ok (.ireturn, 1) := by decide +kernel
theorem dX5_count_83 : decode cX5_count 83 = .ok (.aload_n 0, 1) := by decide +kernel
theorem dX5_count_84 : decode cX5_count 84 = .ok (.invokevirtual 134, 3) := by decide +kernel
theorem dX5_count_87 : decode cX5_count 87 = .ok (.ireturn, 1) := by decide +kernel
theorem dX5_count_88 : decode cX5_count 88 = .ok (.aload_n 0, 1) := by decide +kernel
theorem dX5_count_89 : decode cX5_count 89 = .ok (.invokevirtual 107, 3) := by decide +kernel
theorem dX5_count_92 : decode cX5_count 92 = .ok (.ireturn, 1) := by decide +kernel
theorem dX5_count_93 : decode cX5_count 93 = .ok (.aload_n 0, 1) := by decide +kernel
theorem dX5_count_94 : decode cX5_count 94 = .ok (.invokevirtual 137, 3) := by decide +kernel
theorem dX5_count_97 : decode cX5_count 97 = .ok (.ireturn, 1) := by decide +kernel
theorem dX5_count_98 : decode cX5_count 98 = .ok (.aload_n 0, 1) := by decide +kernel
theorem dX5_count_99 : decode cX5_count 99 = .ok (.ldc 140, 2) := by decide +kernel
theorem dX5_count_101 : decode cX5_count 101 = .ok (.invokevirtual 113, 3) := by decide +kernel
theorem dX5_count_104 : decode cX5_count 104 = .ok (.ireturn, 1) := by decide +kernel
theorem dX5_count_105 : decode cX5_count 105 = .ok (.aload_n 0, 1) := by decide +kernel
theorem dX5_count_106 : decode cX5_count 106 = .ok (.getfield 141, 3) := by decide +kernel
theorem dX5_count_109 : decode cX5_count 109 = .ok (.ireturn, 1) := by decide +kernel
theorem dX5_count_110 : decode cX5_count 110 = .ok (.aload_n 0, 1) := by decide +kernel
theorem dX5_count_111 : decode cX5_count 111 = .ok (.getfield 34, 3) := by decide +kernel
theorem dX5_count_114 : decode cX5_count 114 = .ok (.ireturn, 1) := by decide +kernel
theorem dX5_count_115 : decode cX5_count 115 = .ok (.bipush (-2), 2) := by decide +kernel
theorem dX5_count_117 : decode cX5_count 117 = .ok (.ireturn, 1) := by decide +kernel
theorem dX5_hang_0 : decode cX5_hang 0 = .ok (.aload_n 0, 1) := by decide +kernel
theorem dX5_hang_1 : decode cX5_hang 1 = .ok (.iload_n 1, 1) := by decide +kernel
theorem dX5_hang_2 : decode cX5_hang 2 = .ok (.invokevirtual 65, 3) := by decide +kernel
theorem dX5_hang_5 : decode cX5_hang 5 = .ok (.iload_n 2, 1) := by decide +kernel
theorem dX5_hang_6 : decode cX5_hang 6 = .ok (.ishr, 1) := by decide +kernel
theorem dX5_hang_7 : decode cX5_hang 7 = .ok (.iconst 1, 1) := by decide +kernel
theorem dX5_hang_8 : decode cX5_hang 8 = .ok (.iand, 1) := by decide +kernel
theorem dX5_hang_9 : decode cX5_hang 9 = .ok (.iconst 1, 1) := by decide +kernel
theorem dX5_hang_10 : decode cX5_hang 10 = .ok (.if_icmp .ne 7, 3) := by decide +kernel
theorem dX5_hang_13 : decode cX5_hang 13 = .ok (.iconst 1, 1) := by decide +kernel
theorem dX5_hang_14 : decode cX5_hang 14 = .ok (.goto 4, 3) := by decide +kernel
theorem dX5_hang_17 : decode cX5_hang 17 = .ok (.iconst 0, 1) := by decide +kernel
theorem dX5_hang_18 : decode cX5_hang 18 = .ok (.ireturn, 1) := by decide +kernel
theorem dX5_musts_0 : decode cX5_musts 0 = .ok (.iconst 0, 1) := by decide +kernel
theorem dX5_musts_1 : decode cX5_musts 1 = .ok (.istore_n 3, 1) := by decide +kernel
theorem dX5_musts_2 : decode cX5_musts 2 = .ok (.iconst 0, 1) := by decide +kernel
theorem dX5_musts_3 : decode cX5_musts 3 = .ok (.istore 4, 2) := by decide +kernel
theorem dX5_musts_5 : decode cX5_musts 5 = .ok (.iload 4, 2) := by decide +kernel
theorem dX5_musts_7 : decode cX5_musts 7 = .ok (.aload_n 0, 1) := by decide +kernel
theorem dX5_musts_8 : decode cX5_musts 8 = .ok (.getfield 7, 3) := by decide +kernel
theorem dX5_musts_11 : decode cX5_musts 11 = .ok (.iconst 1, 1) := by decide +kernel
theorem dX5_musts_12 : decode cX5_musts 12 = .ok (.iaload, 1) := by decide +kernel
theorem dX5_musts_13 : decode cX5_musts 13 = .ok (.if_icmp .ge 38, 3) := by decide +kernel
theorem dX5_musts_16 : decode cX5_musts 16 = .ok (.iload_n 3, 1) := by decide +kernel
theorem dX5_musts_17 : decode cX5_musts 17 = .ok (.aload_n 0, 1) := by decide +kernel
theorem dX5_musts_18 : decode cX5_musts 18 = .ok (.iload_n 1, 1) := by decide +kernel
theorem dX5_musts_19 : decode cX5_musts 19 = .ok (.iconst 1, 1) := by decide +kernel
theorem dX5_musts_20 : decode cX5_musts 20 = .ok (.iload 4, 2) := by decide +kernel
theorem dX5_musts_22 : decode cX5_musts 22 = .ok (.ishl, 1) := by decide +kernel
theorem dX5_musts_23 : decode cX5_musts 23 = .ok (.bipush (-6), 2) := by decide +kernel
theorem dX5_musts_25 : decode cX5_musts 25 = .ok (.invokevirtual 46, 3) := by decide +kernel
theorem dX5_musts_28 : decode cX5_musts 28 = .ok (.iload_n 2, 1) := by decide +kernel
theorem dX5_musts_29 : decode cX5_musts 29 = .ok (.ishr, 1) := by decide +kernel
theorem dX5_musts_30 : decode cX5_musts 30 = .ok (.iconst 1, 1) := by decide +kernel
theorem dX5_musts_31 : decode cX5_musts 31 = .ok (.iand, 1) := by decide +kernel
theorem dX5_musts_32 : decode cX5_musts 32 = .ok (.ifCond .ne 10, 3) := by decide +kernel
theorem dX5_musts_35 : decode cX5_musts 35 = .ok (.iconst 1, 1) := by decide +kernel
theorem dX5_musts_36 : decode cX5_musts 36 = .ok (.iload 4, 2) := by decide +kernel
theorem dX5_musts_38 : decode cX5_musts 38 = .ok (.ishl, 1) := by decide +kernel
theorem dX5_musts_39 : decode cX5_musts 39 = .ok (.goto 4, 3) := by decide +kernel
theorem dX5_musts_42 : decode cX5_musts 42 = .ok (.iconst 0, 1) := by decide +kernel
theorem dX5_musts_43 : decode cX5_musts 43 = .ok (.ior, 1) := by decide +kernel
theorem dX5_musts_44 : decode cX5_musts 44 = .ok (.istore_n 3, 1) := by decide +kernel
theorem dX5_musts_45 : decode cX5_musts 45 = .ok (.iinc 4 1, 3) := by decide +kernel
theorem dX5_musts_48 : decode cX5_musts 48 = .ok (.goto (-43), 3) := by decide +kernel
theorem dX5_musts_51 : decode cX5_musts 51 = .ok (.iload_n 3, 1) := by decide +kernel
theorem dX5_musts_52 : decode cX5_musts 52 = .ok (.ireturn, 1) := by decide +kernel
theorem dX5_way_0 : decode cX5_way 0 = .ok (.aload_n 0, 1) := by decide +kernel
theorem dX5_way_1 : decode cX5_way 1 = .ok (.iload_n 1, 1) := by decide +kernel
theorem dX5_way_2 : decode cX5_way 2 = .ok (.invokevirtual 78, 3) := by decide +kernel
theorem dX5_way_5 : decode cX5_way 5 = .ok (.ifCond .eq 11, 3) := by decide +kernel
theorem dX5_way_8 : decode cX5_way 8 = .ok (.aload_n 0, 1) := by decide +kernel
theorem dX5_way_9 : decode cX5_way 9 = .ok (.iload_n 2, 1) := by decide +kernel
theorem dX5_way_10 : decode cX5_way 10 = .ok (.invokevirtual 78, 3) := by decide +kernel
theorem dX5_way_13 : decode cX5_way 13 = .ok (.ifCond .ne 5, 3) := by decide +kernel
theorem dX5_way_16 : decode cX5_way 16 = .ok (.iconst (-1), 1) := by decide +kernel
theorem dX5_way_17 : decode cX5_way 17 = .ok (.ireturn, 1) := by decide +kernel
theorem dX5_way_18 : decode cX5_way 18 = .ok (.iload_n 3, 1) := by decide +kernel
theorem dX5_way_19 : decode cX5_way 19 = .ok (.i2l, 1) := by decide +kernel
theorem dX5_way_20 : decode cX5_way 20 = .ok (.lconst 0, 1) := by decide +kernel
theorem dX5_way_21 : decode cX5_way 21 = .ok (.ldc2_w 68, 3) := by decide +kernel
theorem dX5_way_24 : decode cX5_way 24 = .ok (.invokestatic 38, 3) := by decide +kernel
theorem dX5_way_27 : decode cX5_way 27 = .ok (.ifCond .ne 6, 3) := by decide +kernel
theorem dX5_way_30 : decode cX5_way 30 = .ok (.bipush (-2), 2) := by decide +kernel
theorem dX5_way_32 : decode cX5_way 32 = .ok (.ireturn, 1) := by decide +kernel
theorem dX5_way_33 : decode cX5_way 33 = .ok (.aload_n 0, 1) := by decide +kernel
theorem dX5_way_34 : decode cX5_way 34 = .ok (.iload_n 1, 1) := by decide +kernel
theorem dX5_way_35 : decode cX5_way 35 = .ok (.iload_n 2, 1) := by decide +kernel
theorem dX5_way_36 : decode cX5_way 36 = .ok (.invokevirtual 144, 3) := by decide +kernel
theorem dX5_way_39 : decode cX5_way 39 = .ok (.ifCond .ne 6, 3) := by decide +kernel
theorem dX5_way_42 : decode cX5_way 42 = .ok (.bipush (-6), 2) := by decide +kernel
theorem dX5_way_44 : decode cX5_way 44 = .ok (.ireturn, 1) := by decide +kernel
theorem dX5_way_45 : decode cX5_way 45 = .ok (.iload_n 3, 1) := by decide +kernel
theorem dX5_way_46 : decode cX5_way 46 = .ok (.ifCond .ne 17, 3) := by decide +kernel
theorem dX5_way_49 : decode cX5_way 49 = .ok (.aload_n 0, 1) := by decide +kernel
theorem dX5_way_50 : decode cX5_way 50 = .ok (.iload_n 1, 1) := by decide +kernel
theorem dX5_way_51 : decode cX5_way 51 = .ok (.iconst 0, 1) := by decide +kernel
theorem dX5_way_52 : decode cX5_way 52 = .ok (.iconst 1, 1) := by decide +kernel
theorem dX5_way_53 : decode cX5_way 53 = .ok (.invokevirtual 91, 3) := by decide +kernel
theorem dX5_way_56 : decode cX5_way 56 = .ok (.aload_n 0, 1) := by decide +kernel
theorem dX5_way_57 : decode cX5_way 57 = .ok (.getfield 25, 3) := by decide +kernel
theorem dX5_way_60 : decode cX5_way 60 = .ok (.iload_n 2, 1) := by decide +kernel
theorem dX5_way_61 : decode cX5_way 61 = .ok (.iaload, 1) := by decide +kernel
theorem dX5_way_62 : decode cX5_way 62 = .ok (.ireturn, 1) := by decide +kernel
theorem dX5_way_63 : decode cX5_way 63 = .ok (.aload_n 0, 1) := by decide +kernel
theorem dX5_way_64 : decode cX5_way 64 = .ok (.iload_n 1, 1) := by decide +kernel
theorem dX5_way_65 : decode cX5_way 65 = .ok (.iload_n 2, 1) := by decide +kernel
theorem dX5_way_66 : decode cX5_way 66 = .ok (.invokevirtual 148, 3) := by decide +kernel
theorem dX5_way_69 : decode cX5_way 69 = .ok (.invokestatic 58, 3) := by decide +kernel
theorem dX5_way_72 : decode cX5_way 72 = .ok (.iload_n 3, 1) := by decide +kernel
theorem dX5_way_73 : decode cX5_way 73 = .ok (.iadd, 1) := by decide +kernel
theorem dX5_way_74 : decode cX5_way 74 = .ok (.iconst 1, 1) := by decide +kernel
theorem dX5_way_75 : decode cX5_way 75 = .ok (.isub, 1) := by decide +kernel
theorem dX5_way_76 : decode cX5_way 76 = .ok (.ireturn, 1) := by decide +kernel
theorem dX5_must_0 : decode cX5_must 0 = .ok (.aload_n 0, 1) := by decide +kernel
theorem dX5_must_1 : decode cX5_must 1 = .ok (.iload_n 1, 1) := by decide +kernel
theorem dX5_must_2 : decode cX5_must 2 = .ok (.invokevirtual 78, 3) := by decide +kernel
theorem dX5_must_5 : decode cX5_must 5 = .ok (.ifCond .eq 11, 3) := by decide +kernel
theorem dX5_must_8 : decode cX5_must 8 = .ok (.aload_n 0, 1) := by decide +kernel
theorem dX5_must_9 : decode cX5_must 9 = .ok (.iload_n 2, 1) := by decide +kernel
theorem dX5_must_10 : decode cX5_must 10 = .ok (.invokevirtual 78, 3) := by decide +kernel
theorem dX5_must_13 : decode cX5_must 13 = .ok (.ifCond .ne 5, 3) := by decide +kernel
theorem dX5_must_16 : decode cX5_must 16 = .ok (.iconst (-1), 1) := by decide +kernel
theorem dX5_must_17 : decode cX5_must 17 = .ok (.ireturn, 1) := by decide +kernel
theorem dX5_must_18 : decode cX5_must 18 = .ok (.iload_n 3, 1) := by decide +kernel
theorem dX5_must_19 : decode cX5_must 19 = .ok (.ifCond .ge 6, 3) := by decide +kernel
theorem dX5_must_22 : decode cX5_must 22 = .ok (.bipush (-2), 2) := by decide +kernel
theorem dX5_must_24 : decode cX5_must 24 = .ok (.ireturn, 1) := by decide +kernel
theorem dX5_must_25 : decode cX5_must 25 = .ok (.aload_n 0, 1) := by decide +kernel
theorem dX5_must_26 : decode cX5_must 26 = .ok (.iload_n 1, 1) := by decide +kernel
theorem dX5_must_27 : decode cX5_must 27 = .ok (.iload_n 2, 1) := by decide +kernel
theorem dX5_must_28 : decode cX5_must 28 = .ok (.invokevirtual 144, 3) := by decide +kernel
theorem dX5_must_31 : decode cX5_must 31 = .ok (.ifCond .ne 6, 3) := by decide +kernel
theorem dX5_must_34 : decode cX5_must 34 = .ok (.bipush (-6), 2) := by decide +kernel
theorem dX5_must_36 : decode cX5_must 36 = .ok (.ireturn, 1) := by decide +kernel
theorem dX5_must_37 : decode cX5_must 37 = .ok (.aload_n 0, 1) := by decide +kernel
theorem dX5_must_38 : decode cX5_must 38 = .ok (.iload_n 1, 1) := by decide +kernel
theorem dX5_must_39 : decode cX5_must 39 = .ok (.iload_n 2, 1) := by decide +kernel
theorem dX5_must_40 : decode cX5_must 40 = .ok (.invokevirtual 148, 3) := by decide +kernel
theorem dX5_must_43 : decode cX5_must 43 = .ok (.istore 4, 2) := by decide +kernel
theorem dX5_must_45 : decode cX5_must 45 = .ok (.iconst 0, 1) := by decide +kernel
theorem dX5_must_46 : decode cX5_must 46 = .ok (.istore 5, 2) := by decide +kernel
theorem dX5_must_48 : decode cX5_must 48 = .ok (.iload 5, 2) := by decide +kernel
theorem dX5_must_50 : decode cX5_must 50 = .ok (.aload_n 0, 1) := by decide +kernel
theorem dX5_must_51 : decode cX5_must 51 = .ok (.getfield 7, 3) := by decide +kernel
theorem dX5_must_54 : decode cX5_must 54 = .ok (.iconst 1, 1) := by decide +kernel
theorem dX5_must_55 : decode cX5_must 55 = .ok (.iaload, 1) := by decide +kernel
theorem dX5_must_56 : decode cX5_must 56 = .ok (.if_icmp .ge 107, 3) := by decide +kernel
theorem dX5_must_59 : decode cX5_must 59 = .ok (.iconst 0, 1) := by decide +kernel
theorem dX5_must_60 : decode cX5_must 60 = .ok (.istore 6, 2) := by decide +kernel
theorem dX5_must_62 : decode cX5_must 62 = .ok (.iconst 0, 1) := by decide +kernel
theorem dX5_must_63 : decode cX5_must 63 = .ok (.istore 7, 2) := by decide +kernel
theorem dX5_must_65 : decode cX5_must 65 = .ok (.iload 7, 2) := by decide +kernel
theorem dX5_must_67 : decode cX5_must 67 = .ok (.aload_n 0, 1) := by decide +kernel
theorem dX5_must_68 : decode cX5_must 68 = .ok (.getfield 7, 3) := by decide +kernel
theorem dX5_must_71 : decode cX5_must 71 = .ok (.iconst 1, 1) := by decide +kernel
theorem dX5_must_72 : decode cX5_must 72 = .ok (.iaload, 1) := by decide +kernel
theorem dX5_must_73 : decode cX5_must 73 = .ok (.if_icmp .ge 64, 3) := by decide +kernel
theorem dX5_must_76 : decode cX5_must 76 = .ok (.iload 6, 2) := by decide +kernel
theorem dX5_must_78 : decode cX5_must 78 = .ok (.iload 7, 2) := by decide +kernel
theorem dX5_must_80 : decode cX5_must 80 = .ok (.iload 5, 2) := by decide +kernel
theorem dX5_must_82 : decode cX5_must 82 = .ok (.if_icmp .eq 45, 3) := by decide +kernel
theorem dX5_must_85 : decode cX5_must 85 = .ok (.iload 4, 2) := by decide +kernel
theorem dX5_must_87 : decode cX5_must 87 = .ok (.iload 7, 2) := by decide +kernel
theorem dX5_must_89 : decode cX5_must 89 = .ok (.ishr, 1) := by decide +kernel
theorem dX5_must_90 : decode cX5_must 90 = .ok (.iconst 1, 1) := by decide +kernel
theorem dX5_must_91 : decode cX5_must 91 = .ok (.iand, 1) := by decide +kernel
theorem dX5_must_92 : decode cX5_must 92 = .ok (.iconst 1, 1) := by decide +kernel
theorem dX5_must_93 : decode cX5_must 93 = .ok (.if_icmp .ne 34, 3) := by decide +kernel
theorem dX5_must_96 : decode cX5_must 96 = .ok (.aload_n 0, 1) := by decide +kernel
theorem dX5_must_97 : decode cX5_must 97 = .ok (.iload 7, 2) := by decide +kernel
theorem dX5_must_99 : decode cX5_must 99 = .ok (.invokevirtual 42, 3) := by decide +kernel
theorem dX5_must_102 : decode cX5_must 102 = .ok (.aload_n 0, 1) := by decide +kernel
theorem dX5_must_103 : decode cX5_must 103 = .ok (.iload_n 1, 1) := by decide +kernel
theorem dX5_must_104 : decode cX5_must 104 = .ok (.iconst 1, 1) := by decide +kernel
theorem dX5_must_105 : decode cX5_must 105 = .ok (.iload 5, 2) := by decide +kernel
theorem dX5_must_107 : decode cX5_must 107 = .ok (.ishl, 1) := by decide +kernel
theorem dX5_must_108 : decode cX5_must 108 = .ok (.bipush (-6), 2) := by decide +kernel
theorem dX5_must_110 : decode cX5_must 110 = .ok (.invokevirtual 46, 3) := by decide +kernel
theorem dX5_must_113 : decode cX5_must 113 = .ok (.iand, 1) := by decide +kernel
theorem dX5_must_114 : decode cX5_must 114 = .ok (.aload_n 0, 1) := by decide +kernel
theorem dX5_must_115 : decode cX5_must 115 = .ok (.iload 7, 2) := by decide +kernel
theorem dX5_must_117 : decode cX5_must 117 = .ok (.invokevirtual 42, 3) := by decide +kernel
theorem dX5_must_120 : decode cX5_must 120 = .ok (.if_icmp .ne 7, 3) := by decide +kernel
theorem dX5_must_123 : decode cX5_must 123 = .ok (.iconst 1, 1) := by decide +kernel
theorem dX5_must_124 : decode cX5_must 124 = .ok (.goto 4, 3) := by decide +kernel
theorem dX5_must_127 : decode cX5_must 127 = .ok (.iconst 0, 1) := by decide +kernel
theorem dX5_must_128 : decode cX5_must 128 = .ok (.iadd, 1) := by decide +kernel
theorem dX5_must_129 : decode cX5_must 129 = .ok (.istore 6, 2) := by decide +kernel
theorem dX5_must_131 : decode cX5_must 131 = .ok (.iinc 7 1, 3) := by decide +kernel
theorem dX5_must_134 : decode cX5_must 134 = .ok (.goto (-69), 3) := by decide +kernel
theorem dX5_must_137 : decode cX5_must 137 = .ok (.iload 4, 2) := by decide +kernel
theorem dX5_must_139 : decode cX5_must 139 = .ok (.iload 5, 2) := by decide +kernel
theorem dX5_must_141 : decode cX5_must 141 = .ok (.ishr, 1) := by decide +kernel
theorem dX5_must_142 : decode cX5_must 142 = .ok (.iconst 1, 1) := by decide +kernel
theorem dX5_must_143 : decode cX5_must 143 = .ok (.iand, 1) := by decide +kernel
theorem dX5_must_144 : decode cX5_must 144 = .ok (.iconst 1, 1) := by decide +kernel
theorem dX5_must_145 : decode cX5_must 145 = .ok (.if_icmp .ne 12, 3) := by decide +kernel
theorem dX5_must_148 : decode cX5_must 148 = .ok (.iload 6, 2) := by decide +kernel
theorem dX5_must_150 : decode cX5_must 150 = .ok (.iload_n 3, 1) := by decide +kernel
theorem dX5_must_151 : decode cX5_must 151 = .ok (.if_icmp .ne 6, 3) := by decide +kernel
theorem dX5_must_154 : decode cX5_must 154 = .ok (.iload 5, 2) := by decide +kernel
theorem dX5_must_156 : decode cX5_must 156 = .ok (.ireturn, 1) := by decide +kernel
theorem dX5_must_157 : decode cX5_must 157 = .ok (.iinc 5 1, 3) := by decide +kernel
theorem dX5_must_160 : decode cX5_must 160 = .ok (.goto (-112), 3) := by decide +kernel
theorem dX5_must_163 : decode cX5_must 163 = .ok (.bipush (-6), 2) := by decide +kernel
theorem dX5_must_165 : decode cX5_must 165 = .ok (.ireturn, 1) := by decide +kernel
theorem dX5_cutOff_0 : decode cX5_cutOff 0 = .ok (.aload_n 0, 1) := by decide +kernel
theorem dX5_cutOff_1 : decode cX5_cutOff 1 = .ok (.iload_n 1, 1) := by decide +kernel
theorem dX5_cutOff_2 : decode cX5_cutOff 2 = .ok (.invokevirtual 78, 3) := by decide +kernel
theorem dX5_cutOff_5 : decode cX5_cutOff 5 = .ok (.ifCond .eq 11, 3) := by decide +kernel
theorem dX5_cutOff_8 : decode cX5_cutOff 8 = .ok (.aload_n 0, 1) := by decide +kernel
theorem dX5_cutOff_9 : decode cX5_cutOff 9 = .ok (.iload_n 2, 1) := by decide +kernel
theorem dX5_cutOff_10 : decode cX5_cutOff 10 = .ok (.invokevirtual 87, 3) := by decide +kernel
theorem dX5_cutOff_13 : decode cX5_cutOff 13 = .ok (.ifCond .ne 5, 3) := by decide +kernel
theorem dX5_cutOff_16 : decode cX5_cutOff 16 = .ok (.iconst (-1), 1) := by decide +kernel
theorem dX5_cutOff_17 : decode cX5_cutOff 17 = .ok (.ireturn, 1) := by decide +kernel
theorem dX5_cutOff_18 : decode cX5_cutOff 18 = .ok (.aload_n 0, 1) := by decide +kernel
theorem dX5_cutOff_19 : decode cX5_cutOff 19 = .ok (.iload_n 1, 1) := by decide +kernel
theorem dX5_cutOff_20 : decode cX5_cutOff 20 = .ok (.invokevirtual 65, 3) := by decide +kernel
theorem dX5_cutOff_23 : decode cX5_cutOff 23 = .ok (.aload_n 0, 1) := by decide +kernel
theorem dX5_cutOff_24 : decode cX5_cutOff 24 = .ok (.iload_n 1, 1) := by decide +kernel
theorem dX5_cutOff_25 : decode cX5_cutOff 25 = .ok (.iconst 1, 1) := by decide +kernel
theorem dX5_cutOff_26 : decode cX5_cutOff 26 = .ok (.iload_n 2, 1) := by decide +kernel
theorem dX5_cutOff_27 : decode cX5_cutOff 27 = .ok (.ishl, 1) := by decide +kernel
theorem dX5_cutOff_28 : decode cX5_cutOff 28 = .ok (.bipush (-6), 2) := by decide +kernel
theorem dX5_cutOff_30 : decode cX5_cutOff 30 = .ok (.invokevirtual 46, 3) := by decide +kernel
theorem dX5_cutOff_33 : decode cX5_cutOff 33 = .ok (.iconst (-1), 1) := by decide +kernel
theorem dX5_cutOff_34 : decode cX5_cutOff 34 = .ok (.ixor, 1) := by decide +kernel
theorem dX5_cutOff_35 : decode cX5_cutOff 35 = .ok (.iand, 1) := by decide +kernel
theorem dX5_cutOff_36 : decode cX5_cutOff 36 = .ok (.ireturn, 1) := by decide +kernel
theorem dX5_ifBuilt_0 : decode cX5_ifBuilt 0 = .ok (.aload_n 0, 1) := by decide +kernel
theorem dX5_ifBuilt_1 : decode cX5_ifBuilt 1 = .ok (.iload_n 1, 1) := by decide +kernel
theorem dX5_ifBuilt_2 : decode cX5_ifBuilt 2 = .ok (.invokevirtual 78, 3) := by decide +kernel
theorem dX5_ifBuilt_5 : decode cX5_ifBuilt 5 = .ok (.ifCond .eq 11, 3) := by decide +kernel
theorem dX5_ifBuilt_8 : decode cX5_ifBuilt 8 = .ok (.aload_n 0, 1) := by decide +kernel
theorem dX5_ifBuilt_9 : decode cX5_ifBuilt 9 = .ok (.iload_n 2, 1) := by decide +kernel
theorem dX5_ifBuilt_10 : decode cX5_ifBuilt 10 = .ok (.invokevirtual 78, 3) := by decide +kernel
theorem dX5_ifBuilt_13 : decode cX5_ifBuilt 13 = .ok (.ifCond .ne 5, 3) := by decide +kernel
theorem dX5_ifBuilt_16 : decode cX5_ifBuilt 16 = .ok (.iconst (-1), 1) := by decide +kernel
theorem dX5_ifBuilt_17 : decode cX5_ifBuilt 17 = .ok (.ireturn, 1) := by decide +kernel
theorem dX5_ifBuilt_18 : decode cX5_ifBuilt 18 = .ok (.iload_n 1, 1) := by decide +kernel
theorem dX5_ifBuilt_19 : decode cX5_ifBuilt 19 = .ok (.iload_n 2, 1) := by decide +kernel
theorem dX5_ifBuilt_20 : decode cX5_ifBuilt 20 = .ok (.if_icmp .eq 15, 3) := by decide +kernel
theorem dX5_ifBuilt_23 : decode cX5_ifBuilt 23 = .ok (.iload_n 3, 1) := by decide +kernel
theorem dX5_ifBuilt_24 : decode cX5_ifBuilt 24 = .ok (.i2l, 1) := by decide +kernel
theorem dX5_ifBuilt_25 : decode cX5_ifBuilt 25 = .ok (.lconst 0, 1) := by decide +kernel
theorem dX5_ifBuilt_26 : decode cX5_ifBuilt 26 = .ok (.ldc2_w 68, 3) := by decide +kernel
theorem dX5_ifBuilt_29 : decode cX5_ifBuilt 29 = .ok (.invokestatic 38, 3) := by decide +kernel
theorem dX5_ifBuilt_32 : decode cX5_ifBuilt 32 = .ok (.ifCond .ne 6, 3) := by decide +kernel
theorem dX5_ifBuilt_35 : decode cX5_ifBuilt 35 = .ok (.bipush (-2), 2) := by decide +kernel
theorem dX5_ifBuilt_37 : decode cX5_ifBuilt 37 = .ok (.ireturn, 1) := by decide +kernel
theorem dX5_ifBuilt_38 : decode cX5_ifBuilt 38 = .ok (.aload_n 0, 1) := by decide +kernel
theorem dX5_ifBuilt_39 : decode cX5_ifBuilt 39 = .ok (.iload_n 1, 1) := by decide +kernel
theorem dX5_ifBuilt_40 : decode cX5_ifBuilt 40 = .ok (.iload_n 2, 1) := by decide +kernel
theorem dX5_ifBuilt_41 : decode cX5_ifBuilt 41 = .ok (.invokevirtual 144, 3) := by decide +kernel
theorem dX5_ifBuilt_44 : decode cX5_ifBuilt 44 = .ok (.istore 4, 2) := by decide +kernel
theorem dX5_ifBuilt_46 : decode cX5_ifBuilt 46 = .ok (.iload 4, 2) := by decide +kernel
theorem dX5_ifBuilt_48 : decode cX5_ifBuilt 48 = .ok (.ifCond .eq 15, 3) := by decide +kernel
theorem dX5_ifBuilt_51 : decode cX5_ifBuilt 51 = .ok (.aload_n 0, 1) := by decide +kernel
theorem dX5_ifBuilt_52 : decode cX5_ifBuilt 52 = .ok (.iload_n 1, 1) := by decide +kernel
theorem dX5_ifBuilt_53 : decode cX5_ifBuilt 53 = .ok (.iload_n 2, 1) := by decide +kernel
theorem dX5_ifBuilt_54 : decode cX5_ifBuilt 54 = .ok (.invokevirtual 148, 3) := by decide +kernel
theorem dX5_ifBuilt_57 : decode cX5_ifBuilt 57 = .ok (.invokestatic 58, 3) := by decide +kernel
theorem dX5_ifBuilt_60 : decode cX5_ifBuilt 60 = .ok (.goto 4, 3) := by decide +kernel
theorem dX5_ifBuilt_63 : decode cX5_ifBuilt 63 = .ok (.iconst 0, 1) := by decide +kernel
theorem dX5_ifBuilt_64 : decode cX5_ifBuilt 64 = .ok (.istore 5, 2) := by decide +kernel
theorem dX5_ifBuilt_66 : decode cX5_ifBuilt 66 = .ok (.iload_n 3, 1) := by decide +kernel
theorem dX5_ifBuilt_67 : decode cX5_ifBuilt 67 = .ok (.ifCond .ne 8, 3) := by decide +kernel
theorem dX5_ifBuilt_70 : decode cX5_ifBuilt 70 = .ok (.iload 5, 2) := by decide +kernel
theorem dX5_ifBuilt_72 : decode cX5_ifBuilt 72 = .ok (.goto 33, 3) := by decide +kernel
theorem dX5_ifBuilt_75 : decode cX5_ifBuilt 75 = .ok (.iload_n 3, 1) := by decide +kernel
theorem dX5_ifBuilt_76 : decode cX5_ifBuilt 76 = .ok (.iconst 1, 1) := by decide +kernel
theorem dX5_ifBuilt_77 : decode cX5_ifBuilt 77 = .ok (.if_icmp .ne 13, 3) := by decide +kernel
theorem dX5_ifBuilt_80 : decode cX5_ifBuilt 80 = .ok (.aload_n 0, 1) := by decide +kernel
theorem dX5_ifBuilt_81 : decode cX5_ifBuilt 81 = .ok (.invokevirtual 107, 3) := by decide +kernel
theorem dX5_ifBuilt_84 : decode cX5_ifBuilt 84 = .ok (.iload 5, 2) := by decide +kernel
theorem dX5_ifBuilt_86 : decode cX5_ifBuilt 86 = .ok (.isub, 1) := by decide +kernel
theorem dX5_ifBuilt_87 : decode cX5_ifBuilt 87 = .ok (.goto 18, 3) := by decide +kernel
theorem dX5_ifBuilt_90 : decode cX5_ifBuilt 90 = .ok (.aload_n 0, 1) := by decide +kernel
theorem dX5_ifBuilt_91 : decode cX5_ifBuilt 91 = .ok (.invokevirtual 61, 3) := by decide +kernel
theorem dX5_ifBuilt_94 : decode cX5_ifBuilt 94 = .ok (.iload 4, 2) := by decide +kernel
theorem dX5_ifBuilt_96 : decode cX5_ifBuilt 96 = .ok (.ifCond .eq 7, 3) := by decide +kernel
theorem dX5_ifBuilt_99 : decode cX5_ifBuilt 99 = .ok (.iconst 0, 1) := by decide +kernel
theorem dX5_ifBuilt_100 : decode cX5_ifBuilt 100 = .ok (.goto 4, 3) := by decide +kernel
theorem dX5_ifBuilt_103 : decode cX5_ifBuilt 103 = .ok (.iconst 1, 1) := by decide +kernel
theorem dX5_ifBuilt_104 : decode cX5_ifBuilt 104 = .ok (.isub, 1) := by decide +kernel
theorem dX5_ifBuilt_105 : decode cX5_ifBuilt 105 = .ok (.ireturn, 1) := by decide +kernel
theorem dX5_bestBuilt_0 : decode cX5_bestBuilt 0 = .ok (.iload_n 1, 1) := by decide +kernel
theorem dX5_bestBuilt_1 : decode cX5_bestBuilt 1 = .ok (.i2l, 1) := by decide +kernel
theorem dX5_bestBuilt_2 : decode cX5_bestBuilt 2 = .ok (.lconst 0, 1) := by decide +kernel
theorem dX5_bestBuilt_3 : decode cX5_bestBuilt 3 = .ok (.ldc2_w 68, 3) := by decide +kernel
theorem dX5_bestBuilt_6 : decode cX5_bestBuilt 6 = .ok (.invokestatic 38, 3) := by decide +kernel
theorem dX5_bestBuilt_9 : decode cX5_bestBuilt 9 = .ok (.ifCond .ne 6, 3) := by decide +kernel
theorem dX5_bestBuilt_12 : decode cX5_bestBuilt 12 = .ok (.bipush (-2), 2) := by decide +kernel
theorem dX5_bestBuilt_14 : decode cX5_bestBuilt 14 = .ok (.ireturn, 1) := by decide +kernel
theorem dX5_bestBuilt_15 : decode cX5_bestBuilt 15 = .ok (.aload_n 0, 1) := by decide +kernel
theorem dX5_bestBuilt_16 : decode cX5_bestBuilt 16 = .ok (.invokevirtual 95, 3) := by decide +kernel
theorem dX5_bestBuilt_19 : decode cX5_bestBuilt 19 = .ok (.invokestatic 58, 3) := by decide +kernel
theorem dX5_bestBuilt_22 : decode cX5_bestBuilt 22 = .ok (.istore_n 2, 1) := by decide +kernel
theorem dX5_bestBuilt_23 : decode cX5_bestBuilt 23 = .ok (.ldc 90, 2) := by decide +kernel
theorem dX5_bestBuilt_25 : decode cX5_bestBuilt 25 = .ok (.istore_n 3, 1) := by decide +kernel
theorem dX5_bestBuilt_26 : decode cX5_bestBuilt 26 = .ok (.iconst 0, 1) := by decide +kernel
theorem dX5_bestBuilt_27 : decode cX5_bestBuilt 27 = .ok (.istore 4, 2) := by decide +kernel
theorem dX5_bestBuilt_29 : decode cX5_bestBuilt 29 = .ok (.iconst 0, 1) := by decide +kernel
theorem dX5_bestBuilt_30 : decode cX5_bestBuilt 30 = .ok (.istore 5, 2) := by decide +kernel
theorem dX5_bestBuilt_32 : decode cX5_bestBuilt 32 = .ok (.iconst 0, 1) := by decide +kernel
theorem dX5_bestBuilt_33 : decode cX5_bestBuilt 33 = .ok (.istore 6, 2) := by decide +kernel
theorem dX5_bestBuilt_35 : decode cX5_bestBuilt 35 = .ok (.iload 6, 2) := by decide +kernel
theorem dX5_bestBuilt_37 : decode cX5_bestBuilt 37 = .ok (.aload_n 0, 1) := by decide +kernel
theorem dX5_bestBuilt_38 : decode cX5_bestBuilt 38 = .ok (.getfield 7, 3) := by decide +kernel
theorem dX5_bestBuilt_41 : decode cX5_bestBuilt 41 = .ok (.iconst 0, 1) := by decide +kernel
theorem dX5_bestBuilt_42 : decode cX5_bestBuilt 42 = .ok (.iaload, 1) := by decide +kernel
theorem dX5_bestBuilt_43 : decode cX5_bestBuilt 43 = .ok (.if_icmp .ge 107, 3) := by decide +kernel
theorem dX5_bestBuilt_46 : decode cX5_bestBuilt 46 = .ok (.iload 6, 2) := by decide +kernel
theorem dX5_bestBuilt_48 : decode cX5_bestBuilt 48 = .ok (.iconst 1, 1) := by decide +kernel
theorem dX5_bestBuilt_49 : decode cX5_bestBuilt 49 = .ok (.iadd, 1) := by decide +kernel
theorem dX5_bestBuilt_50 : decode cX5_bestBuilt 50 = .ok (.istore 7, 2) := by decide +kernel
theorem dX5_bestBuilt_52 : decode cX5_bestBuilt 52 = .ok (.iload 7, 2) := by decide +kernel
theorem dX5_bestBuilt_54 : decode cX5_bestBuilt 54 = .ok (.aload_n 0, 1) := by decide +kernel
theorem dX5_bestBuilt_55 : decode cX5_bestBuilt 55 = .ok (.getfield 7, 3) := by decide +kernel
theorem dX5_bestBuilt_58 : decode cX5_bestBuilt 58 = .ok (.iconst 0, 1) := by decide +kernel
theorem dX5_bestBuilt_59 : decode cX5_bestBuilt 59 = .ok (.iaload, 1) := by decide +kernel
theorem dX5_bestBuilt_60 : decode cX5_bestBuilt 60 = .ok (.if_icmp .ge 84, 3) := by decide +kernel
theorem dX5_bestBuilt_63 : decode cX5_bestBuilt 63 = .ok (.aload_n 0, 1) := by decide +kernel
theorem dX5_bestBuilt_64 : decode cX5_bestBuilt 64 = .ok (.iload 6, 2) := by decide +kernel
theorem dX5_bestBuilt_66 : decode cX5_bestBuilt 66 = .ok (.iload 7, 2) := by decide +kernel
theorem dX5_bestBuilt_68 : decode cX5_bestBuilt 68 = .ok (.invokevirtual 144, 3) := by decide +kernel
theorem dX5_bestBuilt_71 : decode cX5_bestBuilt 71 = .ok (.ifCond .eq 19, 3) := by decide +kernel
theorem dX5_bestBuilt_74 : decode cX5_bestBuilt 74 = .ok (.iload_n 2, 1) := by decide +kernel
theorem dX5_bestBuilt_75 : decode cX5_bestBuilt 75 = .ok (.aload_n 0, 1) := by decide +kernel
theorem dX5_bestBuilt_76 : decode cX5_bestBuilt 76 = .ok (.iload 6, 2) := by decide +kernel
theorem dX5_bestBuilt_78 : decode cX5_bestBuilt 78 = .ok (.iload 7, 2) := by decide +kernel
theorem dX5_bestBuilt_80 : decode cX5_bestBuilt 80 = .ok (.invokevirtual 148, 3) := by decide +kernel
theorem dX5_bestBuilt_83 : decode cX5_bestBuilt 83 = .ok (.invokestatic 58, 3) := by decide +kernel
theorem dX5_bestBuilt_86 : decode cX5_bestBuilt 86 = .ok (.isub, 1) := by decide +kernel
theorem dX5_bestBuilt_87 : decode cX5_bestBuilt 87 = .ok (.goto 6, 3) := by decide +kernel
theorem dX5_bestBuilt_90 : decode cX5_bestBuilt 90 = .ok (.iload_n 2, 1) := by decide +kernel
theorem dX5_bestBuilt_91 : decode cX5_bestBuilt 91 = .ok (.iconst 1, 1) := by decide +kernel
theorem dX5_bestBuilt_92 : decode cX5_bestBuilt 92 = .ok (.iadd, 1) := by decide +kernel
theorem dX5_bestBuilt_93 : decode cX5_bestBuilt 93 = .ok (.istore 8, 2) := by decide +kernel
theorem dX5_bestBuilt_95 : decode cX5_bestBuilt 95 = .ok (.iload 8, 2) := by decide +kernel
theorem dX5_bestBuilt_97 : decode cX5_bestBuilt 97 = .ok (.iload_n 3, 1) := by decide +kernel
theorem dX5_bestBuilt_98 : decode cX5_bestBuilt 98 = .ok (.if_icmp .ge 8, 3) := by decide +kernel
theorem dX5_bestBuilt_101 : decode cX5_bestBuilt 101 = .ok (.iload 6, 2) := by decide +kernel
theorem dX5_bestBuilt_103 : decode cX5_bestBuilt 103 = .ok (.goto 5, 3) := by decide +kernel
theorem dX5_bestBuilt_106 : decode cX5_bestBuilt 106 = .ok (.iload 4, 2) := by decide +kernel
theorem dX5_bestBuilt_108 : decode cX5_bestBuilt 108 = .ok (.istore 4, 2) := by decide +kernel
theorem dX5_bestBuilt_110 : decode cX5_bestBuilt 110 = .ok (.iload 8, 2) := by decide +kernel
theorem dX5_bestBuilt_112 : decode cX5_bestBuilt 112 = .ok (.iload_n 3, 1) := by decide +kernel
theorem dX5_bestBuilt_113 : decode cX5_bestBuilt 113 = .ok (.if_icmp .ge 8, 3) := by decide +kernel
theorem dX5_bestBuilt_116 : decode cX5_bestBuilt 116 = .ok (.iload 7, 2) := by decide +kernel
theorem dX5_bestBuilt_118 : decode cX5_bestBuilt 118 = .ok (.goto 5, 3) := by decide +kernel
theorem dX5_bestBuilt_121 : decode cX5_bestBuilt 121 = .ok (.iload 5, 2) := by decide +kernel
theorem dX5_bestBuilt_123 : decode cX5_bestBuilt 123 = .ok (.istore 5, 2) := by decide +kernel
theorem dX5_bestBuilt_125 : decode cX5_bestBuilt 125 = .ok (.iload 8, 2) := by decide +kernel
theorem dX5_bestBuilt_127 : decode cX5_bestBuilt 127 = .ok (.iload_n 3, 1) := by decide +kernel
theorem dX5_bestBuilt_128 : decode cX5_bestBuilt 128 = .ok (.if_icmp .ge 8, 3) := by decide +kernel
theorem dX5_bestBuilt_131 : decode cX5_bestBuilt 131 = .ok (.iload 8, 2) := by decide +kernel
theorem dX5_bestBuilt_133 : decode cX5_bestBuilt 133 = .ok (.goto 4, 3) := by decide +kernel
theorem dX5_bestBuilt_136 : decode cX5_bestBuilt 136 = .ok (.iload_n 3, 1) := by decide +kernel
theorem dX5_bestBuilt_137 : decode cX5_bestBuilt 137 = .ok (.istore_n 3, 1) := by decide +kernel
theorem dX5_bestBuilt_138 : decode cX5_bestBuilt 138 = .ok (.iinc 7 1, 3) := by decide +kernel
theorem dX5_bestBuilt_141 : decode cX5_bestBuilt 141 = .ok (.goto (-89), 3) := by decide +kernel
theorem dX5_bestBuilt_144 : decode cX5_bestBuilt 144 = .ok (.iinc 6 1, 3) := by decide +kernel
theorem dX5_bestBuilt_147 : decode cX5_bestBuilt 147 = .ok (.goto (-112), 3) := by decide +kernel
theorem dX5_bestBuilt_150 : decode cX5_bestBuilt 150 = .ok (.iload_n 1, 1) := by decide +kernel
theorem dX5_bestBuilt_151 : decode cX5_bestBuilt 151 = .ok (.ifCond .ne 8, 3) := by decide +kernel
theorem dX5_bestBuilt_154 : decode cX5_bestBuilt 154 = .ok (.iload 4, 2) := by decide +kernel
theorem dX5_bestBuilt_156 : decode cX5_bestBuilt 156 = .ok (.goto 14, 3) := by decide +kernel
theorem dX5_bestBuilt_159 : decode cX5_bestBuilt 159 = .ok (.iload_n 1, 1) := by decide +kernel
theorem dX5_bestBuilt_160 : decode cX5_bestBuilt 160 = .ok (.iconst 1, 1) := by decide +kernel
theorem dX5_bestBuilt_161 : decode cX5_bestBuilt 161 = .ok (.if_icmp .ne 8, 3) := by decide +kernel
theorem dX5_bestBuilt_164 : decode cX5_bestBuilt 164 = .ok (.iload 5, 2) := by decide +kernel
theorem dX5_bestBuilt_166 : decode cX5_bestBuilt 166 = .ok (.goto 4, 3) := by decide +kernel
theorem dX5_bestBuilt_169 : decode cX5_bestBuilt 169 = .ok (.iload_n 3, 1) := by decide +kernel
theorem dX5_bestBuilt_170 : decode cX5_bestBuilt 170 = .ok (.ireturn, 1) := by decide +kernel
theorem dX5_worstLoss_0 : decode cX5_worstLoss 0 = .ok (.iload_n 1, 1) := by decide +kernel
theorem dX5_worstLoss_1 : decode cX5_worstLoss 1 = .ok (.i2l, 1) := by decide +kernel
theorem dX5_worstLoss_2 : decode cX5_worstLoss 2 = .ok (.lconst 0, 1) := by decide +kernel
theorem dX5_worstLoss_3 : decode cX5_worstLoss 3 = .ok (.lconst 1, 1) := by decide +kernel
theorem dX5_worstLoss_4 : decode cX5_worstLoss 4 = .ok (.invokestatic 38, 3) := by decide +kernel
theorem dX5_worstLoss_7 : decode cX5_worstLoss 7 = .ok (.ifCond .ne 6, 3) := by decide +kernel
theorem dX5_worstLoss_10 : decode cX5_worstLoss 10 = .ok (.bipush (-2), 2) := by decide +kernel
theorem dX5_worstLoss_12 : decode cX5_worstLoss 12 = .ok (.ireturn, 1) := by decide +kernel
theorem dX5_worstLoss_13 : decode cX5_worstLoss 13 = .ok (.bipush (-6), 2) := by decide +kernel
theorem dX5_worstLoss_15 : decode cX5_worstLoss 15 = .ok (.istore_n 2, 1) := by decide +kernel
theorem dX5_worstLoss_16 : decode cX5_worstLoss 16 = .ok (.bipush (-6), 2) := by decide +kernel
theorem dX5_worstLoss_18 : decode cX5_worstLoss 18 = .ok (.istore_n 3, 1) := by decide +kernel
theorem dX5_worstLoss_19 : decode cX5_worstLoss 19 = .ok (.iconst 0, 1) := by decide +kernel
theorem dX5_worstLoss_20 : decode cX5_worstLoss 20 = .ok (.istore 4, 2) := by decide +kernel
theorem dX5_worstLoss_22 : decode cX5_worstLoss 22 = .ok (.iload 4, 2) := by decide +kernel
theorem dX5_worstLoss_24 : decode cX5_worstLoss 24 = .ok (.aload_n 0, 1) := by decide +kernel
theorem dX5_worstLoss_25 : decode cX5_worstLoss 25 = .ok (.getfield 7, 3) := by decide +kernel
theorem dX5_worstLoss_28 : decode cX5_worstLoss 28 = .ok (.iconst 1, 1) := by decide +kernel
theorem dX5_worstLoss_29 : decode cX5_worstLoss 29 = .ok (.iaload, 1) := by decide +kernel
theorem dX5_worstLoss_30 : decode cX5_worstLoss 30 = .ok (.if_icmp .ge 43, 3) := by decide +kernel
theorem dX5_worstLoss_33 : decode cX5_worstLoss 33 = .ok (.aload_n 0, 1) := by decide +kernel
theorem dX5_worstLoss_34 : decode cX5_worstLoss 34 = .ok (.iload 4, 2) := by decide +kernel
theorem dX5_worstLoss_36 : decode cX5_worstLoss 36 = .ok (.invokevirtual 119, 3) := by decide +kernel
theorem dX5_worstLoss_39 : decode cX5_worstLoss 39 = .ok (.istore 5, 2) := by decide +kernel
theorem dX5_worstLoss_41 : decode cX5_worstLoss 41 = .ok (.iload 5, 2) := by decide +kernel
theorem dX5_worstLoss_43 : decode cX5_worstLoss 43 = .ok (.iload_n 3, 1) := by decide +kernel
theorem dX5_worstLoss_44 : decode cX5_worstLoss 44 = .ok (.if_icmp .le 8, 3) := by decide +kernel
theorem dX5_worstLoss_47 : decode cX5_worstLoss 47 = .ok (.iload 4, 2) := by decide +kernel
theorem dX5_worstLoss_49 : decode cX5_worstLoss 49 = .ok (.goto 4, 3) := by decide +kernel
theorem dX5_worstLoss_52 : decode cX5_worstLoss 52 = .ok (.iload_n 2, 1) := by decide +kernel
theorem dX5_worstLoss_53 : decode cX5_worstLoss 53 = .ok (.istore_n 2, 1) := by decide +kernel
theorem dX5_worstLoss_54 : decode cX5_worstLoss 54 = .ok (.iload 5, 2) := by decide +kernel
theorem dX5_worstLoss_56 : decode cX5_worstLoss 56 = .ok (.iload_n 3, 1) := by decide +kernel
theorem dX5_worstLoss_57 : decode cX5_worstLoss 57 = .ok (.if_icmp .le 8, 3) := by decide +kernel
theorem dX5_worstLoss_60 : decode cX5_worstLoss 60 = .ok (.iload 5, 2) := by decide +kernel
theorem dX5_worstLoss_62 : decode cX5_worstLoss 62 = .ok (.goto 4, 3) := by decide +kernel
theorem dX5_worstLoss_65 : decode cX5_worstLoss 65 = .ok (.iload_n 3, 1) := by decide +kernel
theorem dX5_worstLoss_66 : decode cX5_worstLoss 66 = .ok (.istore_n 3, 1) := by decide +kernel
theorem dX5_worstLoss_67 : decode cX5_worstLoss 67 = .ok (.iinc 4 1, 3) := by decide +kernel
theorem dX5_worstLoss_70 : decode cX5_worstLoss 70 = .ok (.goto (-48), 3) := by decide +kernel
theorem dX5_worstLoss_73 : decode cX5_worstLoss 73 = .ok (.iload_n 1, 1) := by decide +kernel
theorem dX5_worstLoss_74 : decode cX5_worstLoss 74 = .ok (.ifCond .ne 7, 3) := by decide +kernel
theorem dX5_worstLoss_77 : decode cX5_worstLoss 77 = .ok (.iload_n 2, 1) := by decide +kernel
theorem dX5_worstLoss_78 : decode cX5_worstLoss 78 = .ok (.goto 4, 3) := by decide +kernel
theorem dX5_worstLoss_81 : decode cX5_worstLoss 81 = .ok (.iload_n 3, 1) := by decide +kernel
theorem dX5_worstLoss_82 : decode cX5_worstLoss 82 = .ok (.ireturn, 1) := by decide +kernel
theorem dX5_needed_0 : decode cX5_needed 0 = .ok (.aload_n 0, 1) := by decide +kernel
theorem dX5_needed_1 : decode cX5_needed 1 = .ok (.iload_n 1, 1) := by decide +kernel
theorem dX5_needed_2 : decode cX5_needed 2 = .ok (.invokevirtual 78, 3) := by decide +kernel
theorem dX5_needed_5 : decode cX5_needed 5 = .ok (.ifCond .ne 5, 3) := by decide +kernel
theorem dX5_needed_8 : decode cX5_needed 8 = .ok (.iconst (-1), 1) := by decide +kernel
theorem dX5_needed_9 : decode cX5_needed 9 = .ok (.ireturn, 1) := by decide +kernel
theorem dX5_needed_10 : decode cX5_needed 10 = .ok (.aload_n 0, 1) := by decide +kernel
theorem dX5_needed_11 : decode cX5_needed 11 = .ok (.iload_n 1, 1) := by decide +kernel
theorem dX5_needed_12 : decode cX5_needed 12 = .ok (.invokevirtual 65, 3) := by decide +kernel
theorem dX5_needed_15 : decode cX5_needed 15 = .ok (.istore_n 2, 1) := by decide +kernel
theorem dX5_needed_16 : decode cX5_needed 16 = .ok (.iconst 0, 1) := by decide +kernel
theorem dX5_needed_17 : decode cX5_needed 17 = .ok (.istore_n 3, 1) := by decide +kernel
theorem dX5_needed_18 : decode cX5_needed 18 = .ok (.aload_n 0, 1) := by decide +kernel
theorem dX5_needed_19 : decode cX5_needed 19 = .ok (.invokevirtual 107, 3) := by decide +kernel
theorem dX5_needed_22 : decode cX5_needed 22 = .ok (.istore 4, 2) := by decide +kernel
theorem dX5_needed_24 : decode cX5_needed 24 = .ok (.iconst 0, 1) := by decide +kernel
theorem dX5_needed_25 : decode cX5_needed 25 = .ok (.istore 5, 2) := by decide +kernel
theorem dX5_needed_27 : decode cX5_needed 27 = .ok (.iload 5, 2) := by decide +kernel
theorem dX5_needed_29 : decode cX5_needed 29 = .ok (.iload 4, 2) := by decide +kernel
theorem dX5_needed_31 : decode cX5_needed 31 = .ok (.if_icmp .ge 42, 3) := by decide +kernel
theorem dX5_needed_34 : decode cX5_needed 34 = .ok (.aload_n 0, 1) := by decide +kernel
theorem dX5_needed_35 : decode cX5_needed 35 = .ok (.iload 5, 2) := by decide +kernel
theorem dX5_needed_37 : decode cX5_needed 37 = .ok (.invokevirtual 110, 3) := by decide +kernel
theorem dX5_needed_40 : decode cX5_needed 40 = .ok (.istore 6, 2) := by decide +kernel
theorem dX5_needed_42 : decode cX5_needed 42 = .ok (.iload_n 3, 1) := by decide +kernel
theorem dX5_needed_43 : decode cX5_needed 43 = .ok (.iload 6, 2) := by decide +kernel
theorem dX5_needed_45 : decode cX5_needed 45 = .ok (.iload_n 2, 1) := by decide +kernel
theorem dX5_needed_46 : decode cX5_needed 46 = .ok (.iand, 1) := by decide +kernel
theorem dX5_needed_47 : decode cX5_needed 47 = .ok (.ifCond .eq 17, 3) := by decide +kernel
theorem dX5_needed_50 : decode cX5_needed 50 = .ok (.aload_n 0, 1) := by decide +kernel
theorem dX5_needed_51 : decode cX5_needed 51 = .ok (.iload 6, 2) := by decide +kernel
theorem dX5_needed_53 : decode cX5_needed 53 = .ok (.invokevirtual 122, 3) := by decide +kernel
theorem dX5_needed_56 : decode cX5_needed 56 = .ok (.iconst 1, 1) := by decide +kernel
theorem dX5_needed_57 : decode cX5_needed 57 = .ok (.if_icmp .ne 7, 3) := by decide +kernel
theorem dX5_needed_60 : decode cX5_needed 60 = .ok (.iconst 1, 1) := by decide +kernel
theorem dX5_needed_61 : decode cX5_needed 61 = .ok (.goto 4, 3) := by decide +kernel
theorem dX5_needed_64 : decode cX5_needed 64 = .ok (.iconst 0, 1) := by decide +kernel
theorem dX5_needed_65 : decode cX5_needed 65 = .ok (.iadd, 1) := by decide +kernel
theorem dX5_needed_66 : decode cX5_needed 66 = .ok (.istore_n 3, 1) := by decide +kernel
theorem dX5_needed_67 : decode cX5_needed 67 = .ok (.iinc 5 1, 3) := by decide +kernel
theorem dX5_needed_70 : decode cX5_needed 70 = .ok (.goto (-43), 3) := by decide +kernel
theorem dX5_needed_73 : decode cX5_needed 73 = .ok (.iload_n 3, 1) := by decide +kernel
theorem dX5_needed_74 : decode cX5_needed 74 = .ok (.iconst 1, 1) := by decide +kernel
theorem dX5_needed_75 : decode cX5_needed 75 = .ok (.iadd, 1) := by decide +kernel
theorem dX5_needed_76 : decode cX5_needed 76 = .ok (.iconst 2, 1) := by decide +kernel
theorem dX5_needed_77 : decode cX5_needed 77 = .ok (.idiv, 1) := by decide +kernel
theorem dX5_needed_78 : decode cX5_needed 78 = .ok (.ireturn, 1) := by decide +kernel
theorem dX5_put_0 : decode cX5_put 0 = .ok (.iconst 0, 1) := by decide +kernel
theorem dX5_put_1 : decode cX5_put 1 = .ok (.istore_n 3, 1) := by decide +kernel
theorem dX5_put_2 : decode cX5_put 2 = .ok (.iconst 1, 1) := by decide +kernel
theorem dX5_put_3 : decode cX5_put 3 = .ok (.istore 4, 2) := by decide +kernel
theorem dX5_put_5 : decode cX5_put 5 = .ok (.lload_n 1, 1) := by decide +kernel
theorem dX5_put_6 : decode cX5_put 6 = .ok (.lstore 5, 2) := by decide +kernel
theorem dX5_put_8 : decode cX5_put 8 = .ok (.iload_n 3, 1) := by decide +kernel
theorem dX5_put_9 : decode cX5_put 9 = .ok (.bipush 8, 2) := by decide +kernel
theorem dX5_put_11 : decode cX5_put 11 = .ok (.if_icmp .ge 57, 3) := by decide +kernel
theorem dX5_put_14 : decode cX5_put 14 = .ok (.lload 5, 2) := by decide +kernel
theorem dX5_put_16 : decode cX5_put 16 = .ok (.ldc2_w 151, 3) := by decide +kernel
theorem dX5_put_19 : decode cX5_put 19 = .ok (.land, 1) := by decide +kernel
theorem dX5_put_20 : decode cX5_put 20 = .ok (.lconst 0, 1) := by decide +kernel
theorem dX5_put_21 : decode cX5_put 21 = .ok (.lcmp, 1) := by decide +kernel
theorem dX5_put_22 : decode cX5_put 22 = .ok (.ifCond .eq 46, 3) := by decide +kernel
theorem dX5_put_25 : decode cX5_put 25 = .ok (.iload 4, 2) := by decide +kernel
theorem dX5_put_27 : decode cX5_put 27 = .ok (.ifCond .eq 25, 3) := by decide +kernel
theorem dX5_put_30 : decode cX5_put 30 = .ok (.lload 5, 2) := by decide +kernel
theorem dX5_put_32 : decode cX5_put 32 = .ok (.ldc2_w 151, 3) := by decide +kernel
theorem dX5_put_35 : decode cX5_put 35 = .ok (.land, 1) := by decide +kernel
theorem dX5_put_36 : decode cX5_put 36 = .ok (.ldc2_w 153, 3) := by decide +kernel
theorem dX5_put_39 : decode cX5_put 39 = .ok (.ldc2_w 155, 3) := by decide +kernel
theorem dX5_put_42 : decode cX5_put 42 = .ok (.invokestatic 38, 3) := by decide +kernel
theorem dX5_put_45 : decode cX5_put 45 = .ok (.ifCond .eq 7, 3) := by decide +kernel
theorem dX5_put_48 : decode cX5_put 48 = .ok (.iconst 1, 1) := by decide +kernel
theorem dX5_put_49 : decode cX5_put 49 = .ok (.goto 4, 3) := by decide +kernel
theorem dX5_put_52 : decode cX5_put 52 = .ok (.iconst 0, 1) := by decide +kernel
theorem dX5_put_53 : decode cX5_put 53 = .ok (.istore 4, 2) := by decide +kernel
theorem dX5_put_55 : decode cX5_put 55 = .ok (.lload 5, 2) := by decide +kernel
theorem dX5_put_57 : decode cX5_put 57 = .ok (.bipush 8, 2) := by decide +kernel
theorem dX5_put_59 : decode cX5_put 59 = .ok (.lushr, 1) := by decide +kernel
theorem dX5_put_60 : decode cX5_put 60 = .ok (.lstore 5, 2) := by decide +kernel
theorem dX5_put_62 : decode cX5_put 62 = .ok (.iinc 3 1, 3) := by decide +kernel
theorem dX5_put_65 : decode cX5_put 65 = .ok (.goto (-57), 3) := by decide +kernel
theorem dX5_put_68 : decode cX5_put 68 = .ok (.iload_n 3, 1) := by decide +kernel
theorem dX5_put_69 : decode cX5_put 69 = .ok (.ifCond .eq 15, 3) := by decide +kernel
theorem dX5_put_72 : decode cX5_put 72 = .ok (.lload 5, 2) := by decide +kernel
theorem dX5_put_74 : decode cX5_put 74 = .ok (.lconst 0, 1) := by decide +kernel
theorem dX5_put_75 : decode cX5_put 75 = .ok (.lcmp, 1) := by decide +kernel
theorem dX5_put_76 : decode cX5_put 76 = .ok (.ifCond .ne 8, 3) := by decide +kernel
theorem dX5_put_79 : decode cX5_put 79 = .ok (.iload 4, 2) := by decide +kernel
theorem dX5_put_81 : decode cX5_put 81 = .ok (.ifCond .ne 6, 3) := by decide +kernel
theorem dX5_put_84 : decode cX5_put 84 = .ok (.bipush (-2), 2) := by decide +kernel
theorem dX5_put_86 : decode cX5_put 86 = .ok (.ireturn, 1) := by decide +kernel
theorem dX5_put_87 : decode cX5_put 87 = .ok (.aload_n 0, 1) := by decide +kernel
theorem dX5_put_88 : decode cX5_put 88 = .ok (.getfield 141, 3) := by decide +kernel
theorem dX5_put_91 : decode cX5_put 91 = .ok (.iload_n 3, 1) := by decide +kernel
theorem dX5_put_92 : decode cX5_put 92 = .ok (.iadd, 1) := by decide +kernel
theorem dX5_put_93 : decode cX5_put 93 = .ok (.bipush 80, 2) := by decide +kernel
theorem dX5_put_95 : decode cX5_put 95 = .ok (.if_icmp .le 6, 3) := by decide +kernel
theorem dX5_put_98 : decode cX5_put 98 = .ok (.bipush (-4), 2) := by decide +kernel
theorem dX5_put_100 : decode cX5_put 100 = .ok (.ireturn, 1) := by decide +kernel
theorem dX5_put_101 : decode cX5_put 101 = .ok (.iload_n 3, 1) := by decide +kernel
theorem dX5_put_102 : decode cX5_put 102 = .ok (.iconst 1, 1) := by decide +kernel
theorem dX5_put_103 : decode cX5_put 103 = .ok (.isub, 1) := by decide +kernel
theorem dX5_put_104 : decode cX5_put 104 = .ok (.istore 7, 2) := by decide +kernel
theorem dX5_put_106 : decode cX5_put 106 = .ok (.iload 7, 2) := by decide +kernel
theorem dX5_put_108 : decode cX5_put 108 = .ok (.ifCond .lt 40, 3) := by decide +kernel
theorem dX5_put_111 : decode cX5_put 111 = .ok (.aload_n 0, 1) := by decide +kernel
theorem dX5_put_112 : decode cX5_put 112 = .ok (.getfield 28, 3) := by decide +kernel
theorem dX5_put_115 : decode cX5_put 115 = .ok (.aload_n 0, 1) := by decide +kernel
theorem dX5_put_116 : decode cX5_put 116 = .ok (.getfield 141, 3) := by decide +kernel
theorem dX5_put_119 : decode cX5_put 119 = .ok (.lload_n 1, 1) := by decide +kernel
theorem dX5_put_120 : decode cX5_put 120 = .ok (.bipush 8, 2) := by decide +kernel
theorem dX5_put_122 : decode cX5_put 122 = .ok (.iload 7, 2) := by decide +kernel
theorem dX5_put_124 : decode cX5_put 124 = .ok (.imul, 1) := by decide +kernel
theorem dX5_put_125 : decode cX5_put 125 = .ok (.lushr, 1) := by decide +kernel
theorem dX5_put_126 : decode cX5_put 126 = .ok (.ldc2_w 151, 3) := by decide +kernel
theorem dX5_put_129 : decode cX5_put 129 = .ok (.land, 1) := by decide +kernel
theorem dX5_put_130 : decode cX5_put 130 = .ok (.l2i, 1) := by decide +kernel
theorem dX5_put_131 : decode cX5_put 131 = .ok (.iastore, 1) := by decide +kernel
theorem dX5_put_132 : decode cX5_put 132 = .ok (.aload_n 0, 1) := by decide +kernel
theorem dX5_put_133 : decode cX5_put 133 = .ok (.dup, 1) := by decide +kernel
theorem dX5_put_134 : decode cX5_put 134 = .ok (.getfield 141, 3) := by decide +kernel
theorem dX5_put_137 : decode cX5_put 137 = .ok (.iconst 1, 1) := by decide +kernel
theorem dX5_put_138 : decode cX5_put 138 = .ok (.iadd, 1) := by decide +kernel
theorem dX5_put_139 : decode cX5_put 139 = .ok (.putfield 141, 3) := by decide +kernel
theorem dX5_put_142 : decode cX5_put 142 = .ok (.iinc 7 (-1), 3) := by decide +kernel
theorem dX5_put_145 : decode cX5_put 145 = .ok (.goto (-39), 3) := by decide +kernel
theorem dX5_put_148 : decode cX5_put 148 = .ok (.aload_n 0, 1) := by decide +kernel
theorem dX5_put_149 : decode cX5_put 149 = .ok (.getfield 141, 3) := by decide +kernel
theorem dX5_put_152 : decode cX5_put 152 = .ok (.ireturn, 1) := by decide +kernel
theorem dX5_wipe_0 : decode cX5_wipe 0 = .ok (.aload_n 0, 1) := by decide +kernel
theorem dX5_wipe_1 : decode cX5_wipe 1 = .ok (.getfield 141, 3) := by decide +kernel
theorem dX5_wipe_4 : decode cX5_wipe 4 = .ok (.istore_n 1, 1) := by decide +kernel
theorem dX5_wipe_5 : decode cX5_wipe 5 = .ok (.aload_n 0, 1) := by decide +kernel
theorem dX5_wipe_6 : decode cX5_wipe 6 = .ok (.iconst 0, 1) := by decide +kernel
theorem dX5_wipe_7 : decode cX5_wipe 7 = .ok (.putfield 141, 3) := by decide +kernel
theorem dX5_wipe_10 : decode cX5_wipe 10 = .ok (.iload_n 1, 1) := by decide +kernel
theorem dX5_wipe_11 : decode cX5_wipe 11 = .ok (.ireturn, 1) := by decide +kernel
theorem dX5_isHere_0 : decode cX5_isHere 0 = .ok (.aload_n 0, 1) := by decide +kernel
theorem dX5_isHere_1 : decode cX5_isHere 1 = .ok (.getfield 157, 3) := by decide +kernel
theorem dX5_isHere_4 : decode cX5_isHere 4 = .ok (.aload_n 0, 1) := by decide +kernel
theorem dX5_isHere_5 : decode cX5_isHere 5 = .ok (.getfield 141, 3) := by decide +kernel
theorem dX5_isHere_8 : decode cX5_isHere 8 = .ok (.if_icmp .ge 27, 3) := by decide +kernel
theorem dX5_isHere_11 : decode cX5_isHere 11 = .ok (.aload_n 0, 1) := by decide +kernel
theorem dX5_isHere_12 : decode cX5_isHere 12 = .ok (.getfield 28, 3) := by decide +kernel
theorem dX5_isHere_15 : decode cX5_isHere 15 = .ok (.aload_n 0, 1) := by decide +kernel
theorem dX5_isHere_16 : decode cX5_isHere 16 = .ok (.getfield 157, 3) := by decide +kernel
theorem dX5_isHere_19 : decode cX5_isHere 19 = .ok (.iaload, 1) := by decide +kernel
theorem dX5_isHere_20 : decode cX5_isHere 20 = .ok (.i2l, 1) := by decide +kernel
theorem dX5_isHere_21 : decode cX5_isHere 21 = .ok (.iload_n 1, 1) := by decide +kernel
theorem dX5_isHere_22 : decode cX5_isHere 22 = .ok (.i2l, 1) := by decide +kernel
theorem dX5_isHere_23 : decode cX5_isHere 23 = .ok (.iload_n 2, 1) := by decide +kernel
theorem dX5_isHere_24 : decode cX5_isHere 24 = .ok (.i2l, 1) := by decide +kernel
theorem dX5_isHere_25 : decode cX5_isHere 25 = .ok (.invokestatic 38, 3) := by decide +kernel
theorem dX5_isHere_28 : decode cX5_isHere 28 = .ok (.ifCond .eq 7, 3) := by decide +kernel
theorem dX5_isHere_31 : decode cX5_isHere 31 = .ok (.iconst 1, 1) := by decide +kernel
theorem dX5_isHere_32 : decode cX5_isHere 32 = .ok (.goto 4, 3) := by decide +kernel
theorem dX5_isHere_35 : decode cX5_isHere 35 = .ok (.iconst 0, 1) := by decide +kernel
theorem dX5_isHere_36 : decode cX5_isHere 36 = .ok (.ireturn, 1) := by decide +kernel
theorem dX5_takes_0 : decode cX5_takes 0 = .ok (.aload_n 0, 1) := by decide +kernel
theorem dX5_takes_1 : decode cX5_takes 1 = .ok (.iload_n 1, 1) := by decide +kernel
theorem dX5_takes_2 : decode cX5_takes 2 = .ok (.iload_n 1, 1) := by decide +kernel
theorem dX5_takes_3 : decode cX5_takes 3 = .ok (.invokevirtual 160, 3) := by decide +kernel
theorem dX5_takes_6 : decode cX5_takes 6 = .ok (.istore_n 2, 1) := by decide +kernel
theorem dX5_takes_7 : decode cX5_takes 7 = .ok (.aload_n 0, 1) := by decide +kernel
theorem dX5_takes_8 : decode cX5_takes 8 = .ok (.dup, 1) := by decide +kernel
theorem dX5_takes_9 : decode cX5_takes 9 = .ok (.getfield 157, 3) := by decide +kernel
theorem dX5_takes_12 : decode cX5_takes 12 = .ok (.iload_n 2, 1) := by decide +kernel
theorem dX5_takes_13 : decode cX5_takes 13 = .ok (.ifCond .eq 7, 3) := by decide +kernel
theorem dX5_takes_16 : decode cX5_takes 16 = .ok (.iconst 1, 1) := by decide +kernel
theorem dX5_takes_17 : decode cX5_takes 17 = .ok (.goto 4, 3) := by decide +kernel
theorem dX5_takes_20 : decode cX5_takes 20 = .ok (.iconst 0, 1) := by decide +kernel
theorem dX5_takes_21 : decode cX5_takes 21 = .ok (.iadd, 1) := by decide +kernel
theorem dX5_takes_22 : decode cX5_takes 22 = .ok (.putfield 157, 3) := by decide +kernel
theorem dX5_takes_25 : decode cX5_takes 25 = .ok (.iload_n 2, 1) := by decide +kernel
theorem dX5_takes_26 : decode cX5_takes 26 = .ok (.ireturn, 1) := by decide +kernel
theorem dX5_readsNumber_0 : decode cX5_readsNumber 0 = .ok (.aload_n 0, 1) := by decide +kernel
theorem dX5_readsNumber_1 : decode cX5_readsNumber 1 = .ok (.bipush 48, 2) := by decide +kernel
theorem dX5_readsNumber_3 : decode cX5_readsNumber 3 = .ok (.iload_n 1, 1) := by decide +kernel
theorem dX5_readsNumber_4 : decode cX5_readsNumber 4 = .ok (.iadd, 1) := by decide +kernel
theorem dX5_readsNumber_5 : decode cX5_readsNumber 5 = .ok (.bipush 57, 2) := by decide +kernel
theorem dX5_readsNumber_7 : decode cX5_readsNumber 7 = .ok (.invokevirtual 160, 3) := by decide +kernel
theorem dX5_readsNumber_10 : decode cX5_readsNumber 10 = .ok (.ifCond .ne 5, 3) := by decide +kernel
theorem dX5_readsNumber_13 : decode cX5_readsNumber 13 = .ok (.iconst 0, 1) := by decide +kernel
theorem dX5_readsNumber_14 : decode cX5_readsNumber 14 = .ok (.ireturn, 1) := by decide +kernel
theorem dX5_readsNumber_15 : decode cX5_readsNumber 15 = .ok (.aload_n 0, 1) := by decide +kernel
theorem dX5_readsNumber_16 : decode cX5_readsNumber 16 = .ok (.aload_n 0, 1) := by decide +kernel
theorem dX5_readsNumber_17 : decode cX5_readsNumber 17 = .ok (.getfield 28, 3) := by decide +kernel
theorem dX5_readsNumber_20 : decode cX5_readsNumber 20 = .ok (.aload_n 0, 1) := by decide +kernel
theorem dX5_readsNumber_21 : decode cX5_readsNumber 21 = .ok (.getfield 157, 3) := by decide +kernel
theorem dX5_readsNumber_24 : decode cX5_readsNumber 24 = .ok (.iaload, 1) := by decide +kernel
theorem dX5_readsNumber_25 : decode cX5_readsNumber 25 = .ok (.bipush 48, 2) := by decide +kernel
theorem dX5_readsNumber_27 : decode cX5_readsNumber 27 = .ok (.isub, 1) := by decide +kernel
theorem dX5_readsNumber_28 : decode cX5_readsNumber 28 = .ok (.putfield 163, 3) := by decide +kernel
theorem dX5_readsNumber_31 : decode cX5_readsNumber 31 = .ok (.aload_n 0, 1) := by decide +kernel
theorem dX5_readsNumber_32 : decode cX5_readsNumber 32 = .ok (.dup, 1) := by decide +kernel
theorem dX5_readsNumber_33 : decode cX5_readsNumber 33 = .ok (.getfield 157, 3) := by decide +kernel
theorem dX5_readsNumber_36 : decode cX5_readsNumber 36 = .ok (.iconst 1, 1) := by decide +kernel
theorem dX5_readsNumber_37 : decode cX5_readsNumber 37 = .ok (.iadd, 1) := by decide +kernel
theorem dX5_readsNumber_38 : decode cX5_readsNumber 38 = .ok (.putfield 157, 3) := by decide +kernel
theorem dX5_readsNumber_41 : decode cX5_readsNumber 41 = .ok (.aload_n 0, 1) := by decide +kernel
theorem dX5_readsNumber_42 : decode cX5_readsNumber 42 = .ok (.getfield 163, 3) := by decide +kernel
theorem dX5_readsNumber_45 : decode cX5_readsNumber 45 = .ok (.ifCond .le 72, 3) := by decide +kernel
theorem dX5_readsNumber_48 : decode cX5_readsNumber 48 = .ok (.aload_n 0, 1) := by decide +kernel
theorem dX5_readsNumber_49 : decode cX5_readsNumber 49 = .ok (.bipush 48, 2) := by decide +kernel
theorem dX5_readsNumber_51 : decode cX5_readsNumber 51 = .ok (.bipush 57, 2) := by decide +kernel
theorem dX5_readsNumber_53 : decode cX5_readsNumber 53 = .ok (.invokevirtual 160, 3) := by decide +kernel
theorem dX5_readsNumber_56 : decode cX5_readsNumber 56 = .ok (.ifCond .eq 61, 3) := by decide +kernel
theorem dX5_readsNumber_59 : decode cX5_readsNumber 59 = .ok (.bipush 10, 2) := by decide +kernel
theorem dX5_readsNumber_61 : decode cX5_readsNumber 61 = .ok (.aload_n 0, 1) := by decide +kernel
theorem dX5_readsNumber_62 : decode cX5_readsNumber 62 = .ok (.getfield 163, 3) := by decide +kernel
theorem dX5_readsNumber_65 : decode cX5_readsNumber 65 = .ok (.imul, 1) := by decide +kernel
theorem dX5_readsNumber_66 : decode cX5_readsNumber 66 = .ok (.aload_n 0, 1) := by decide +kernel
theorem dX5_readsNumber_67 : decode cX5_readsNumber 67 = .ok (.getfield 28, 3) := by decide +kernel
theorem dX5_readsNumber_70 : decode cX5_readsNumber 70 = .ok (.aload_n 0, 1) := by decide +kernel
theorem dX5_readsNumber_71 : decode cX5_readsNumber 71 = .ok (.getfield 157, 3) := by decide +kernel
theorem dX5_readsNumber_74 : decode cX5_readsNumber 74 = .ok (.iaload, 1) := by decide +kernel
theorem dX5_readsNumber_75 : decode cX5_readsNumber 75 = .ok (.iadd, 1) := by decide +kernel
theorem dX5_readsNumber_76 : decode cX5_readsNumber 76 = .ok (.bipush 48, 2) := by decide +kernel
theorem dX5_readsNumber_78 : decode cX5_readsNumber 78 = .ok (.isub, 1) := by decide +kernel
theorem dX5_readsNumber_79 : decode cX5_readsNumber 79 = .ok (.iload_n 2, 1) := by decide +kernel
theorem dX5_readsNumber_80 : decode cX5_readsNumber 80 = .ok (.if_icmp .gt 37, 3) := by decide +kernel
theorem dX5_readsNumber_83 : decode cX5_readsNumber 83 = .ok (.aload_n 0, 1) := by decide +kernel
theorem dX5_readsNumber_84 : decode cX5_readsNumber 84 = .ok (.bipush 10, 2) := by decide +kernel
theorem dX5_readsNumber_86 : decode cX5_readsNumber 86 = .ok (.aload_n 0, 1) := by decide +kernel
theorem dX5_readsNumber_87 : decode cX5_readsNumber 87 = .ok (.getfield 163, 3) := by decide +kernel
theorem dX5_readsNumber_90 : decode cX5_readsNumber 90 = .ok (.imul, 1) := by decide +kernel
theorem dX5_readsNumber_91 : decode cX5_readsNumber 91 = .ok (.aload_n 0, 1) := by decide +kernel
theorem dX5_readsNumber_92 : decode cX5_readsNumber 92 = .ok (.getfield 28, 3) := by decide +kernel
theorem dX5_readsNumber_95 : decode cX5_readsNumber 95 = .ok (.aload_n 0, 1) := by decide +kernel
theorem dX5_readsNumber_96 : decode cX5_readsNumber 96 = .ok (.getfield 157, 3) := by decide +kernel
theorem dX5_readsNumber_99 : decode cX5_readsNumber 99 = .ok (.iaload, 1) := by decide +kernel
theorem dX5_readsNumber_100 : decode cX5_readsNumber 100 = .ok (.iadd, 1) := by decide +kernel
theorem dX5_readsNumber_101 : decode cX5_readsNumber 101 = .ok (.bipush 48, 2) := by decide +kernel
theorem dX5_readsNumber_103 : decode cX5_readsNumber 103 = .ok (.isub, 1) := by decide +kernel
theorem dX5_readsNumber_104 : decode cX5_readsNumber 104 = .ok (.putfield 163, 3) := by decide +kernel
theorem dX5_readsNumber_107 : decode cX5_readsNumber 107 = .ok (.aload_n 0, 1) := by decide +kernel
theorem dX5_readsNumber_108 : decode cX5_readsNumber 108 = .ok (.dup, 1) := by decide +kernel
theorem dX5_readsNumber_109 : decode cX5_readsNumber 109 = .ok (.getfield 157, 3) := by decide +kernel
theorem dX5_readsNumber_112 : decode cX5_readsNumber 112 = .ok (.iconst 1, 1) := by decide +kernel
theorem dX5_readsNumber_113 : decode cX5_readsNumber 113 = .ok (.iadd, 1) := by decide +kernel
theorem dX5_readsNumber_114 : decode cX5_readsNumber 114 = .ok (.putfield 157, 3) := by decide +kernel
theorem dX5_readsNumber_117 : decode cX5_readsNumber 117 = .ok (.iconst 1, 1) := by decide +kernel
theorem dX5_readsNumber_118 : decode cX5_readsNumber 118 = .ok (.ireturn, 1) := by decide +kernel
theorem dX5_readsRoad_0 : decode cX5_readsRoad 0 = .ok (.aload_n 0, 1) := by decide +kernel
theorem dX5_readsRoad_1 : decode cX5_readsRoad 1 = .ok (.iconst 0, 1) := by decide +kernel
theorem dX5_readsRoad_2 : decode cX5_readsRoad 2 = .ok (.bipush 15, 2) := by decide +kernel
theorem dX5_readsRoad_4 : decode cX5_readsRoad 4 = .ok (.invokevirtual 166, 3) := by decide +kernel
theorem dX5_readsRoad_7 : decode cX5_readsRoad 7 = .ok (.ifCond .ne 5, 3) := by decide +kernel
theorem dX5_readsRoad_10 : decode cX5_readsRoad 10 = .ok (.iconst 0, 1) := by decide +kernel
theorem dX5_readsRoad_11 : decode cX5_readsRoad 11 = .ok (.ireturn, 1) := by decide +kernel
theorem dX5_readsRoad_12 : decode cX5_readsRoad 12 = .ok (.aload_n 0, 1) := by decide +kernel
theorem dX5_readsRoad_13 : decode cX5_readsRoad 13 = .ok (.getfield 163, 3) := by decide +kernel
theorem dX5_readsRoad_16 : decode cX5_readsRoad 16 = .ok (.istore_n 1, 1) := by decide +kernel
theorem dX5_readsRoad_17 : decode cX5_readsRoad 17 = .ok (.aload_n 0, 1) := by decide +kernel
theorem dX5_readsRoad_18 : decode cX5_readsRoad 18 = .ok (.bipush 45, 2) := by decide +kernel
theorem dX5_readsRoad_20 : decode cX5_readsRoad 20 = .ok (.invokevirtual 169, 3) := by decide +kernel
theorem dX5_readsRoad_23 : decode cX5_readsRoad 23 = .ok (.ifCond .eq 13, 3) := by decide +kernel
theorem dX5_readsRoad_26 : decode cX5_readsRoad 26 = .ok (.aload_n 0, 1) := by decide +kernel
theorem dX5_readsRoad_27 : decode cX5_readsRoad 27 = .ok (.iconst 0, 1) := by decide +kernel
theorem dX5_readsRoad_28 : decode cX5_readsRoad 28 = .ok (.bipush 15, 2) := by decide +kernel
theorem dX5_readsRoad_30 : decode cX5_readsRoad 30 = .ok (.invokevirtual 166, 3) := by decide +kernel
theorem dX5_readsRoad_33 : decode cX5_readsRoad 33 = .ok (.ifCond .ne 5, 3) := by decide +kernel
theorem dX5_readsRoad_36 : decode cX5_readsRoad 36 = .ok (.iconst 0, 1) := by decide +kernel
theorem dX5_readsRoad_37 : decode cX5_readsRoad 37 = .ok (.ireturn, 1) := by decide +kernel
theorem dX5_readsRoad_38 : decode cX5_readsRoad 38 = .ok (.aload_n 0, 1) := by decide +kernel
theorem dX5_readsRoad_39 : decode cX5_readsRoad 39 = .ok (.getfield 163, 3) := by decide +kernel
theorem dX5_readsRoad_42 : decode cX5_readsRoad 42 = .ok (.istore_n 2, 1) := by decide +kernel
theorem dX5_readsRoad_43 : decode cX5_readsRoad 43 = .ok (.aload_n 0, 1) := by decide +kernel
theorem dX5_readsRoad_44 : decode cX5_readsRoad 44 = .ok (.bipush 58, 2) := by decide +kernel
theorem dX5_readsRoad_46 : decode cX5_readsRoad 46 = .ok (.invokevirtual 169, 3) := by decide +kernel
theorem dX5_readsRoad_49 : decode cX5_readsRoad 49 = .ok (.ifCond .eq 13, 3) := by decide +kernel
theorem dX5_readsRoad_52 : decode cX5_readsRoad 52 = .ok (.aload_n 0, 1) := by decide +kernel
theorem dX5_readsRoad_53 : decode cX5_readsRoad 53 = .ok (.iconst 1, 1) := by decide +kernel
theorem dX5_readsRoad_54 : decode cX5_readsRoad 54 = .ok (.bipush 99, 2) := by decide +kernel
theorem dX5_readsRoad_56 : decode cX5_readsRoad 56 = .ok (.invokevirtual 166, 3) := by decide +kernel
theorem dX5_readsRoad_59 : decode cX5_readsRoad 59 = .ok (.ifCond .ne 5, 3) := by decide +kernel
theorem dX5_readsRoad_62 : decode cX5_readsRoad 62 = .ok (.iconst 0, 1) := by decide +kernel
theorem dX5_readsRoad_63 : decode cX5_readsRoad 63 = .ok (.ireturn, 1) := by decide +kernel
theorem dX5_readsRoad_64 : decode cX5_readsRoad 64 = .ok (.aload_n 0, 1) := by decide +kernel
theorem dX5_readsRoad_65 : decode cX5_readsRoad 65 = .ok (.getfield 31, 3) := by decide +kernel
theorem dX5_readsRoad_68 : decode cX5_readsRoad 68 = .ok (.iconst 3, 1) := by decide +kernel
theorem dX5_readsRoad_69 : decode cX5_readsRoad 69 = .ok (.aload_n 0, 1) := by decide +kernel
theorem dX5_readsRoad_70 : decode cX5_readsRoad 70 = .ok (.getfield 172, 3) := by decide +kernel
theorem dX5_readsRoad_73 : decode cX5_readsRoad 73 = .ok (.imul, 1) := by decide +kernel
theorem dX5_readsRoad_74 : decode cX5_readsRoad 74 = .ok (.iload_n 1, 1) := by decide +kernel
theorem dX5_readsRoad_75 : decode cX5_readsRoad 75 = .ok (.iastore, 1) := by decide +kernel
theorem dX5_readsRoad_76 : decode cX5_readsRoad 76 = .ok (.aload_n 0, 1) := by decide +kernel
theorem dX5_readsRoad_77 : decode cX5_readsRoad 77 = .ok (.getfield 31, 3) := by decide +kernel
theorem dX5_readsRoad_80 : decode cX5_readsRoad 80 = .ok (.iconst 3, 1) := by decide +kernel
theorem dX5_readsRoad_81 : decode cX5_readsRoad 81 = .ok (.aload_n 0, 1) := by decide +kernel
theorem dX5_readsRoad_82 : decode cX5_readsRoad 82 = .ok (.getfield 172, 3) := by decide +kernel
theorem dX5_readsRoad_85 : decode cX5_readsRoad 85 = .ok (.imul, 1) := by decide +kernel
theorem dX5_readsRoad_86 : decode cX5_readsRoad 86 = .ok (.iconst 1, 1) := by decide +kernel
theorem dX5_readsRoad_87 : decode cX5_readsRoad 87 = .ok (.iadd, 1) := by decide +kernel
theorem dX5_readsRoad_88 : decode cX5_readsRoad 88 = .ok (.iload_n 2, 1) := by decide +kernel
theorem dX5_readsRoad_89 : decode cX5_readsRoad 89 = .ok (.iastore, 1) := by decide +kernel
theorem dX5_readsRoad_90 : decode cX5_readsRoad 90 = .ok (.aload_n 0, 1) := by decide +kernel
theorem dX5_readsRoad_91 : decode cX5_readsRoad 91 = .ok (.getfield 31, 3) := by decide +kernel
theorem dX5_readsRoad_94 : decode cX5_readsRoad 94 = .ok (.iconst 3, 1) := by decide +kernel
theorem dX5_readsRoad_95 : decode cX5_readsRoad 95 = .ok (.aload_n 0, 1) := by decide +kernel
theorem dX5_readsRoad_96 : decode cX5_readsRoad 96 = .ok (.getfield 172, 3) := by decide +kernel
theorem dX5_readsRoad_99 : decode cX5_readsRoad 99 = .ok (.imul, 1) := by decide +kernel
theorem dX5_readsRoad_100 : decode cX5_readsRoad 100 = .ok (.iconst 2, 1) := by decide +kernel
theorem dX5_readsRoad_101 : decode cX5_readsRoad 101 = .ok (.iadd, 1) := by decide +kernel
theorem dX5_readsRoad_102 : decode cX5_readsRoad 102 = .ok (.aload_n 0, 1) := by decide +kernel
theorem dX5_readsRoad_103 : decode cX5_readsRoad 103 = .ok (.getfield 163, 3) := by decide +kernel
theorem dX5_readsRoad_106 : decode cX5_readsRoad 106 = .ok (.iastore, 1) := by decide +kernel
theorem dX5_readsRoad_107 : decode cX5_readsRoad 107 = .ok (.aload_n 0, 1) := by decide +kernel
theorem dX5_readsRoad_108 : decode cX5_readsRoad 108 = .ok (.dup, 1) := by decide +kernel
theorem dX5_readsRoad_109 : decode cX5_readsRoad 109 = .ok (.getfield 172, 3) := by decide +kernel
theorem dX5_readsRoad_112 : decode cX5_readsRoad 112 = .ok (.iconst 1, 1) := by decide +kernel
theorem dX5_readsRoad_113 : decode cX5_readsRoad 113 = .ok (.iadd, 1) := by decide +kernel
theorem dX5_readsRoad_114 : decode cX5_readsRoad 114 = .ok (.putfield 172, 3) := by decide +kernel
theorem dX5_readsRoad_117 : decode cX5_readsRoad 117 = .ok (.iconst 1, 1) := by decide +kernel
theorem dX5_readsRoad_118 : decode cX5_readsRoad 118 = .ok (.ireturn, 1) := by decide +kernel
theorem dX5_fault_0 : decode cX5_fault 0 = .ok (.aload_n 0, 1) := by decide +kernel
theorem dX5_fault_1 : decode cX5_fault 1 = .ok (.iconst 0, 1) := by decide +kernel
theorem dX5_fault_2 : decode cX5_fault 2 = .ok (.putfield 157, 3) := by decide +kernel
theorem dX5_fault_5 : decode cX5_fault 5 = .ok (.aload_n 0, 1) := by decide +kernel
theorem dX5_fault_6 : decode cX5_fault 6 = .ok (.iconst 0, 1) := by decide +kernel
theorem dX5_fault_7 : decode cX5_fault 7 = .ok (.putfield 172, 3) := by decide +kernel
theorem dX5_fault_10 : decode cX5_fault 10 = .ok (.iconst 1, 1) := by decide +kernel
theorem dX5_fault_11 : decode cX5_fault 11 = .ok (.istore_n 1, 1) := by decide +kernel
theorem dX5_fault_12 : decode cX5_fault 12 = .ok (.iload_n 1, 1) := by decide +kernel
theorem dX5_fault_13 : decode cX5_fault 13 = .ok (.ifCond .eq 25, 3) := by decide +kernel
theorem dX5_fault_16 : decode cX5_fault 16 = .ok (.aload_n 0, 1) := by decide +kernel
theorem dX5_fault_17 : decode cX5_fault 17 = .ok (.invokevirtual 175, 3) := by decide +kernel
theorem dX5_fault_20 : decode cX5_fault 20 = .ok (.ifCond .ne 8, 3) := by decide +kernel
theorem dX5_fault_23 : decode cX5_fault 23 = .ok (.aload_n 0, 1) := by decide +kernel
theorem dX5_fault_24 : decode cX5_fault 24 = .ok (.getfield 157, 3) := by decide +kernel
theorem dX5_fault_27 : decode cX5_fault 27 = .ok (.ireturn, 1) := by decide +kernel
theorem dX5_fault_28 : decode cX5_fault 28 = .ok (.aload_n 0, 1) := by decide +kernel
theorem dX5_fault_29 : decode cX5_fault 29 = .ok (.bipush 59, 2) := by decide +kernel
theorem dX5_fault_31 : decode cX5_fault 31 = .ok (.invokevirtual 169, 3) := by decide +kernel
theorem dX5_fault_34 : decode cX5_fault 34 = .ok (.istore_n 1, 1) := by decide +kernel
theorem dX5_fault_35 : decode cX5_fault 35 = .ok (.goto (-23), 3) := by decide +kernel
theorem dX5_fault_38 : decode cX5_fault 38 = .ok (.aload_n 0, 1) := by decide +kernel
theorem dX5_fault_39 : decode cX5_fault 39 = .ok (.getfield 157, 3) := by decide +kernel
theorem dX5_fault_42 : decode cX5_fault 42 = .ok (.aload_n 0, 1) := by decide +kernel
theorem dX5_fault_43 : decode cX5_fault 43 = .ok (.getfield 141, 3) := by decide +kernel
theorem dX5_fault_46 : decode cX5_fault 46 = .ok (.if_icmp .ne 8, 3) := by decide +kernel
theorem dX5_fault_49 : decode cX5_fault 49 = .ok (.bipush (-6), 2) := by decide +kernel
theorem dX5_fault_51 : decode cX5_fault 51 = .ok (.goto 7, 3) := by decide +kernel
theorem dX5_fault_54 : decode cX5_fault 54 = .ok (.aload_n 0, 1) := by decide +kernel
theorem dX5_fault_55 : decode cX5_fault 55 = .ok (.getfield 157, 3) := by decide +kernel
theorem dX5_fault_58 : decode cX5_fault 58 = .ok (.ireturn, 1) := by decide +kernel
theorem dX5_haveAllSquares_0 : decode cX5_haveAllSquares 0 = .ok (.iconst 1, 1) := by decide +kernel
theorem dX5_haveAllSquares_1 : decode cX5_haveAllSquares 1 = .ok (.istore_n 1, 1) := by decide +kernel
theorem dX5_haveAllSquares_2 : decode cX5_haveAllSquares 2 = .ok (.iconst 0, 1) := by decide +kernel
theorem dX5_haveAllSquares_3 : decode cX5_haveAllSquares 3 = .ok (.istore_n 2, 1) := by decide +kernel
theorem dX5_haveAllSquares_4 : decode cX5_haveAllSquares 4 = .ok (.iload_n 2, 1) := by decide +kernel
theorem dX5_haveAllSquares_5 : decode cX5_haveAllSquares 5 = .ok (.aload_n 0, 1) := by decide +kernel
theorem dX5_haveAllSquares_6 : decode cX5_haveAllSquares 6 = .ok (.getfield 172, 3) := by decide +kernel
theorem dX5_haveAllSquares_9 : decode cX5_haveAllSquares 9 = .ok (.if_icmp .ge 51, 3) := by decide +kernel
theorem dX5_haveAllSquares_12 : decode cX5_haveAllSquares 12 = .ok (.iload_n 1, 1) := by decide +kernel
theorem dX5_haveAllSquares_13 : decode cX5_haveAllSquares 13 = .ok (.ifCond .eq 39, 3) := by decide +kernel
theorem dX5_haveAllSquares_16 : decode cX5_haveAllSquares 16 = .ok (.aload_n 0, 1) := by decide +kernel
theorem dX5_haveAllSquares_17 : decode cX5_haveAllSquares 17 = .ok (.aload_n 0, 1) := by decide +kernel
theorem dX5_haveAllSquares_18 : decode cX5_haveAllSquares 18 = .ok (.getfield 31, 3) := by decide +kernel
theorem dX5_haveAllSquares_21 : decode cX5_haveAllSquares 21 = .ok (.iconst 3, 1) := by decide +kernel
theorem dX5_haveAllSquares_22 : decode cX5_haveAllSquares 22 = .ok (.iload_n 2, 1) := by decide +kernel
theorem dX5_haveAllSquares_23 : decode cX5_haveAllSquares 23 = .ok (.imul, 1) := by decide +kernel
theorem dX5_haveAllSquares_24 : decode cX5_haveAllSquares 24 = .ok (.iaload, 1) := by decide +kernel
theorem dX5_haveAllSquares_25 : decode cX5_haveAllSquares 25 = .ok (.invokevirtual 78, 3) := by decide +kernel
theorem dX5_haveAllSquares_28 : decode cX5_haveAllSquares 28 = .ok (.ifCond .eq 24, 3) := by decide +kernel
theorem dX5_haveAllSquares_31 : decode cX5_haveAllSquares 31 = .ok (.aload_n 0, 1) := by decide +kernel
theorem dX5_haveAllSquares_32 : decode cX5_haveAllSquares 32 = .ok (.aload_n 0, 1) := by decide +kernel
theorem dX5_haveAllSquares_33 : decode cX5_haveAllSquares 33 = .ok (.getfield 31, 3) := by decide +kernel
theorem dX5_haveAllSquares_36 : decode cX5_haveAllSquares 36 = .ok (.iconst 3, 1) := by decide +kernel
theorem dX5_haveAllSquares_37 : decode cX5_haveAllSquares 37 = .ok (.iload_n 2, 1) := by decide +kernel
theorem dX5_haveAllSquares_38 : decode cX5_haveAllSquares 38 = .ok (.imul, 1) := by decide +kernel
theorem dX5_haveAllSquares_39 : decode cX5_haveAllSquares 39 = .ok (.iconst 1, 1) := by decide +kernel
theorem dX5_haveAllSquares_40 : decode cX5_haveAllSquares 40 = .ok (.iadd, 1) := by decide +kernel
theorem dX5_haveAllSquares_41 : decode cX5_haveAllSquares 41 = .ok (.iaload, 1) := by decide +kernel
theorem dX5_haveAllSquares_42 : decode cX5_haveAllSquares 42 = .ok (.invokevirtual 78, 3) := by decide +kernel
theorem dX5_haveAllSquares_45 : decode cX5_haveAllSquares 45 = .ok (.ifCond .eq 7, 3) := by decide +kernel
theorem dX5_haveAllSquares_48 : decode cX5_haveAllSquares 48 = .ok (.iconst 1, 1) := by decide +kernel
theorem dX5_haveAllSquares_49 : decode cX5_haveAllSquares 49 = .ok (.goto 4, 3) := by decide +kernel
theorem dX5_haveAllSquares_52 : decode cX5_haveAllSquares 52 = .ok (.iconst 0, 1) := by decide +kernel
theorem dX5_haveAllSquares_53 : decode cX5_haveAllSquares 53 = .ok (.istore_n 1, 1) := by decide +kernel
theorem dX5_haveAllSquares_54 : decode cX5_haveAllSquares 54 = .ok (.iinc 2 1, 3) := by decide +kernel
theorem dX5_haveAllSquares_57 : decode cX5_haveAllSquares 57 = .ok (.goto (-53), 3) := by decide +kernel
theorem dX5_haveAllSquares_60 : decode cX5_haveAllSquares 60 = .ok (.iload_n 1, 1) := by decide +kernel
theorem dX5_haveAllSquares_61 : decode cX5_haveAllSquares 61 = .ok (.ireturn, 1) := by decide +kernel
theorem dX5_areDifferent_0 : decode cX5_areDifferent 0 = .ok (.iconst 1, 1) := by decide +kernel
theorem dX5_areDifferent_1 : decode cX5_areDifferent 1 = .ok (.istore_n 1, 1) := by decide +kernel
theorem dX5_areDifferent_2 : decode cX5_areDifferent 2 = .ok (.iconst 0, 1) := by decide +kernel
theorem dX5_areDifferent_3 : decode cX5_areDifferent 3 = .ok (.istore_n 2, 1) := by decide +kernel
theorem dX5_areDifferent_4 : decode cX5_areDifferent 4 = .ok (.iload_n 2, 1) := by decide +kernel
theorem dX5_areDifferent_5 : decode cX5_areDifferent 5 = .ok (.aload_n 0, 1) := by decide +kernel
theorem dX5_areDifferent_6 : decode cX5_areDifferent 6 = .ok (.getfield 172, 3) := by decide +kernel
theorem dX5_areDifferent_9 : decode cX5_areDifferent 9 = .ok (.if_icmp .ge 40, 3) := by decide +kernel
theorem dX5_areDifferent_12 : decode cX5_areDifferent 12 = .ok (.iload_n 1, 1) := by decide +kernel
theorem dX5_areDifferent_13 : decode cX5_areDifferent 13 = .ok (.ifCond .eq 28, 3) := by decide +kernel
theorem dX5_areDifferent_16 : decode cX5_areDifferent 16 = .ok (.aload_n 0, 1) := by decide +kernel
theorem dX5_areDifferent_17 : decode cX5_areDifferent 17 = .ok (.getfield 31, 3) := by decide +kernel
theorem dX5_areDifferent_20 : decode cX5_areDifferent 20 = .ok (.iconst 3, 1) := by decide +kernel
theorem dX5_areDifferent_21 : decode cX5_areDifferent 21 = .ok (.iload_n 2, 1) := by decide +kernel
theorem dX5_areDifferent_22 : decode cX5_areDifferent 22 = .ok (.imul, 1) := by decide +kernel
theorem dX5_areDifferent_23 : decode cX5_areDifferent 23 = .ok (.iaload, 1) := by decide +kernel
theorem dX5_areDifferent_24 : decode cX5_areDifferent 24 = .ok (.aload_n 0, 1) := by decide +kernel
theorem dX5_areDifferent_25 : decode cX5_areDifferent 25 = .ok (.getfield 31, 3) := by decide +kernel
theorem dX5_areDifferent_28 : decode cX5_areDifferent 28 = .ok (.iconst 3, 1) := by decide +kernel
theorem dX5_areDifferent_29 : decode cX5_areDifferent 29 = .ok (.iload_n 2, 1) := by decide +kernel
theorem dX5_areDifferent_30 : decode cX5_areDifferent 30 = .ok (.imul, 1) := by decide +kernel
theorem dX5_areDifferent_31 : decode cX5_areDifferent 31 = .ok (.iconst 1, 1) := by decide +kernel
theorem dX5_areDifferent_32 : decode cX5_areDifferent 32 = .ok (.iadd, 1) := by decide +kernel
theorem dX5_areDifferent_33 : decode cX5_areDifferent 33 = .ok (.iaload, 1) := by decide +kernel
theorem dX5_areDifferent_34 : decode cX5_areDifferent 34 = .ok (.if_icmp .eq 7, 3) := by decide +kernel
theorem dX5_areDifferent_37 : decode cX5_areDifferent 37 = .ok (.iconst 1, 1) := by decide +kernel
theorem dX5_areDifferent_38 : decode cX5_areDifferent 38 = .ok (.goto 4, 3) := by decide +kernel
theorem dX5_areDifferent_41 : decode cX5_areDifferent 41 = .ok (.iconst 0, 1) := by decide +kernel
theorem dX5_areDifferent_42 : decode cX5_areDifferent 42 = .ok (.istore_n 1, 1) := by decide +kernel
theorem dX5_areDifferent_43 : decode cX5_areDifferent 43 = .ok (.iinc 2 1, 3) := by decide +kernel
theorem dX5_areDifferent_46 : decode cX5_areDifferent 46 = .ok (.goto (-42), 3) := by decide +kernel
theorem dX5_areDifferent_49 : decode cX5_areDifferent 49 = .ok (.iload_n 1, 1) := by decide +kernel
theorem dX5_areDifferent_50 : decode cX5_areDifferent 50 = .ok (.ireturn, 1) := by decide +kernel
theorem dX5_read_0 : decode cX5_read 0 = .ok (.aload_n 0, 1) := by decide +kernel
theorem dX5_read_1 : decode cX5_read 1 = .ok (.invokevirtual 179, 3) := by decide +kernel
theorem dX5_read_4 : decode cX5_read 4 = .ok (.bipush (-6), 2) := by decide +kernel
theorem dX5_read_6 : decode cX5_read 6 = .ok (.if_icmp .eq 6, 3) := by decide +kernel
theorem dX5_read_9 : decode cX5_read 9 = .ok (.bipush (-3), 2) := by decide +kernel
theorem dX5_read_11 : decode cX5_read 11 = .ok (.ireturn, 1) := by decide +kernel
theorem dX5_read_12 : decode cX5_read 12 = .ok (.aload_n 0, 1) := by decide +kernel
theorem dX5_read_13 : decode cX5_read 13 = .ok (.invokevirtual 182, 3) := by decide +kernel
theorem dX5_read_16 : decode cX5_read 16 = .ok (.ifCond .ne 5, 3) := by decide +kernel
theorem dX5_read_19 : decode cX5_read 19 = .ok (.iconst (-1), 1) := by decide +kernel
theorem dX5_read_20 : decode cX5_read 20 = .ok (.ireturn, 1) := by decide +kernel
theorem dX5_read_21 : decode cX5_read 21 = .ok (.aload_n 0, 1) := by decide +kernel
theorem dX5_read_22 : decode cX5_read 22 = .ok (.invokevirtual 185, 3) := by decide +kernel
theorem dX5_read_25 : decode cX5_read 25 = .ok (.ifCond .ne 6, 3) := by decide +kernel
theorem dX5_read_28 : decode cX5_read 28 = .ok (.bipush (-2), 2) := by decide +kernel
theorem dX5_read_30 : decode cX5_read 30 = .ok (.ireturn, 1) := by decide +kernel
theorem dX5_read_31 : decode cX5_read 31 = .ok (.aload_n 0, 1) := by decide +kernel
theorem dX5_read_32 : decode cX5_read 32 = .ok (.getfield 7, 3) := by decide +kernel
theorem dX5_read_35 : decode cX5_read 35 = .ok (.iconst 1, 1) := by decide +kernel
theorem dX5_read_36 : decode cX5_read 36 = .ok (.iaload, 1) := by decide +kernel
theorem dX5_read_37 : decode cX5_read 37 = .ok (.aload_n 0, 1) := by decide +kernel
theorem dX5_read_38 : decode cX5_read 38 = .ok (.getfield 172, 3) := by decide +kernel
theorem dX5_read_41 : decode cX5_read 41 = .ok (.iadd, 1) := by decide +kernel
theorem dX5_read_42 : decode cX5_read 42 = .ok (.bipush 30, 2) := by decide +kernel
theorem dX5_read_44 : decode cX5_read 44 = .ok (.if_icmp .le 6, 3) := by decide +kernel
theorem dX5_read_47 : decode cX5_read 47 = .ok (.bipush (-4), 2) := by decide +kernel
theorem dX5_read_49 : decode cX5_read 49 = .ok (.ireturn, 1) := by decide +kernel
theorem dX5_read_50 : decode cX5_read 50 = .ok (.aload_n 0, 1) := by decide +kernel
theorem dX5_read_51 : decode cX5_read 51 = .ok (.invokevirtual 72, 3) := by decide +kernel
theorem dX5_read_54 : decode cX5_read 54 = .ok (.iconst 0, 1) := by decide +kernel
theorem dX5_read_55 : decode cX5_read 55 = .ok (.istore_n 1, 1) := by decide +kernel
theorem dX5_read_56 : decode cX5_read 56 = .ok (.iload_n 1, 1) := by decide +kernel
theorem dX5_read_57 : decode cX5_read 57 = .ok (.aload_n 0, 1) := by decide +kernel
theorem dX5_read_58 : decode cX5_read 58 = .ok (.getfield 172, 3) := by decide +kernel
theorem dX5_read_61 : decode cX5_read 61 = .ok (.if_icmp .ge 41, 3) := by decide +kernel
theorem dX5_read_64 : decode cX5_read 64 = .ok (.aload_n 0, 1) := by decide +kernel
theorem dX5_read_65 : decode cX5_read 65 = .ok (.aload_n 0, 1) := by decide +kernel
theorem dX5_read_66 : decode cX5_read 66 = .ok (.getfield 31, 3) := by decide +kernel
theorem dX5_read_69 : decode cX5_read 69 = .ok (.iconst 3, 1) := by decide +kernel
theorem dX5_read_70 : decode cX5_read 70 = .ok (.iload_n 1, 1) := by decide +kernel
theorem dX5_read_71 : decode cX5_read 71 = .ok (.imul, 1) := by decide +kernel
theorem dX5_read_72 : decode cX5_read 72 = .ok (.iaload, 1) := by decide +kernel
theorem dX5_read_73 : decode cX5_read 73 = .ok (.aload_n 0, 1) := by decide +kernel
theorem dX5_read_74 : decode cX5_read 74 = .ok (.getfield 31, 3) := by decide +kernel
theorem dX5_read_77 : decode cX5_read 77 = .ok (.iconst 3, 1) := by decide +kernel
theorem dX5_read_78 : decode cX5_read 78 = .ok (.iload_n 1, 1) := by decide +kernel
theorem dX5_read_79 : decode cX5_read 79 = .ok (.imul, 1) := by decide +kernel
theorem dX5_read_80 : decode cX5_read 80 = .ok (.iconst 1, 1) := by decide +kernel
theorem dX5_read_81 : decode cX5_read 81 = .ok (.iadd, 1) := by decide +kernel
theorem dX5_read_82 : decode cX5_read 82 = .ok (.iaload, 1) := by decide +kernel
theorem dX5_read_83 : decode cX5_read 83 = .ok (.aload_n 0, 1) := by decide +kernel
theorem dX5_read_84 : decode cX5_read 84 = .ok (.getfield 31, 3) := by decide +kernel
theorem dX5_read_87 : decode cX5_read 87 = .ok (.iconst 3, 1) := by decide +kernel
theorem dX5_read_88 : decode cX5_read 88 = .ok (.iload_n 1, 1) := by decide +kernel
theorem dX5_read_89 : decode cX5_read 89 = .ok (.imul, 1) := by decide +kernel
theorem dX5_read_90 : decode cX5_read 90 = .ok (.iconst 2, 1) := by decide +kernel
theorem dX5_read_91 : decode cX5_read 91 = .ok (.iadd, 1) := by decide +kernel
theorem dX5_read_92 : decode cX5_read 92 = .ok (.iaload, 1) := by decide +kernel
theorem dX5_read_93 : decode cX5_read 93 = .ok (.invokevirtual 83, 3) := by decide +kernel
theorem dX5_read_96 : decode cX5_read 96 = .ok (.iinc 1 1, 3) := by decide +kernel
theorem dX5_read_99 : decode cX5_read 99 = .ok (.goto (-43), 3) := by decide +kernel
theorem dX5_read_102 : decode cX5_read 102 = .ok (.aload_n 0, 1) := by decide +kernel
theorem dX5_read_103 : decode cX5_read 103 = .ok (.iconst 0, 1) := by decide +kernel
theorem dX5_read_104 : decode cX5_read 104 = .ok (.putfield 141, 3) := by decide +kernel
theorem dX5_read_107 : decode cX5_read 107 = .ok (.aload_n 0, 1) := by decide +kernel
theorem dX5_read_108 : decode cX5_read 108 = .ok (.aload_n 0, 1) := by decide +kernel
theorem dX5_read_109 : decode cX5_read 109 = .ok (.getfield 7, 3) := by decide +kernel
theorem dX5_read_112 : decode cX5_read 112 = .ok (.iconst 1, 1) := by decide +kernel
theorem dX5_read_113 : decode cX5_read 113 = .ok (.iaload, 1) := by decide +kernel
theorem dX5_read_114 : decode cX5_read 114 = .ok (.invokevirtual 75, 3) := by decide +kernel
theorem dX5_read_117 : decode cX5_read 117 = .ok (.ireturn, 1) := by decide +kernel
theorem dX5_undo_0 : decode cX5_undo 0 = .ok (.aload_n 0, 1) := by decide +kernel
theorem dX5_undo_1 : decode cX5_undo 1 = .ok (.getfield 34, 3) := by decide +kernel
theorem dX5_undo_4 : decode cX5_undo 4 = .ok (.ifCond .ne 6, 3) := by decide +kernel
theorem dX5_undo_7 : decode cX5_undo 7 = .ok (.bipush (-5), 2) := by decide +kernel
theorem dX5_undo_9 : decode cX5_undo 9 = .ok (.ireturn, 1) := by decide +kernel
theorem dX5_undo_10 : decode cX5_undo 10 = .ok (.aload_n 0, 1) := by decide +kernel
theorem dX5_undo_11 : decode cX5_undo 11 = .ok (.dup, 1) := by decide +kernel
theorem dX5_undo_12 : decode cX5_undo 12 = .ok (.getfield 34, 3) := by decide +kernel
theorem dX5_undo_15 : decode cX5_undo 15 = .ok (.iconst 1, 1) := by decide +kernel
theorem dX5_undo_16 : decode cX5_undo 16 = .ok (.isub, 1) := by decide +kernel
theorem dX5_undo_17 : decode cX5_undo 17 = .ok (.putfield 34, 3) := by decide +kernel
theorem dX5_undo_20 : decode cX5_undo 20 = .ok (.iconst 0, 1) := by decide +kernel
theorem dX5_undo_21 : decode cX5_undo 21 = .ok (.istore_n 1, 1) := by decide +kernel
theorem dX5_undo_22 : decode cX5_undo 22 = .ok (.iload_n 1, 1) := by decide +kernel
theorem dX5_undo_23 : decode cX5_undo 23 = .ok (.bipush 92, 2) := by decide +kernel
theorem dX5_undo_25 : decode cX5_undo 25 = .ok (.if_icmp .ge 29, 3) := by decide +kernel
theorem dX5_undo_28 : decode cX5_undo 28 = .ok (.aload_n 0, 1) := by decide +kernel
theorem dX5_undo_29 : decode cX5_undo 29 = .ok (.getfield 7, 3) := by decide +kernel
theorem dX5_undo_32 : decode cX5_undo 32 = .ok (.iload_n 1, 1) := by decide +kernel
theorem dX5_undo_33 : decode cX5_undo 33 = .ok (.aload_n 0, 1) := by decide +kernel
theorem dX5_undo_34 : decode cX5_undo 34 = .ok (.getfield 16, 3) := by decide +kernel
theorem dX5_undo_37 : decode cX5_undo 37 = .ok (.bipush 92, 2) := by decide +kernel
theorem dX5_undo_39 : decode cX5_undo 39 = .ok (.aload_n 0, 1) := by decide +kernel
theorem dX5_undo_40 : decode cX5_undo 40 = .ok (.getfield 34, 3) := by decide +kernel
theorem dX5_undo_43 : decode cX5_undo 43 = .ok (.imul, 1) := by decide +kernel
theorem dX5_undo_44 : decode cX5_undo 44 = .ok (.iload_n 1, 1) := by decide +kernel
theorem dX5_undo_45 : decode cX5_undo 45 = .ok (.iadd, 1) := by decide +kernel
theorem dX5_undo_46 : decode cX5_undo 46 = .ok (.iaload, 1) := by decide +kernel
theorem dX5_undo_47 : decode cX5_undo 47 = .ok (.iastore, 1) := by decide +kernel
theorem dX5_undo_48 : decode cX5_undo 48 = .ok (.iinc 1 1, 3) := by decide +kernel
theorem dX5_undo_51 : decode cX5_undo 51 = .ok (.goto (-29), 3) := by decide +kernel
theorem dX5_undo_54 : decode cX5_undo 54 = .ok (.aload_n 0, 1) := by decide +kernel
theorem dX5_undo_55 : decode cX5_undo 55 = .ok (.getfield 34, 3) := by decide +kernel
theorem dX5_undo_58 : decode cX5_undo 58 = .ok (.ireturn, 1) := by decide +kernel
theorem dX5_save_0 : decode cX5_save 0 = .ok (.iload_n 1, 1) := by decide +kernel
theorem dX5_save_1 : decode cX5_save 1 = .ok (.i2l, 1) := by decide +kernel
theorem dX5_save_2 : decode cX5_save 2 = .ok (.lconst 0, 1) := by decide +kernel
theorem dX5_save_3 : decode cX5_save 3 = .ok (.lconst 1, 1) := by decide +kernel
theorem dX5_save_4 : decode cX5_save 4 = .ok (.invokestatic 38, 3) := by decide +kernel
theorem dX5_save_7 : decode cX5_save 7 = .ok (.ifCond .ne 6, 3) := by decide +kernel
theorem dX5_save_10 : decode cX5_save 10 = .ok (.bipush (-2), 2) := by decide +kernel
theorem dX5_save_12 : decode cX5_save 12 = .ok (.ireturn, 1) := by decide +kernel
theorem dX5_save_13 : decode cX5_save 13 = .ok (.iconst 0, 1) := by decide +kernel
theorem dX5_save_14 : decode cX5_save 14 = .ok (.istore_n 2, 1) := by decide +kernel
theorem dX5_save_15 : decode cX5_save 15 = .ok (.iload_n 2, 1) := by decide +kernel
theorem dX5_save_16 : decode cX5_save 16 = .ok (.bipush 92, 2) := by decide +kernel
theorem dX5_save_18 : decode cX5_save 18 = .ok (.if_icmp .ge 26, 3) := by decide +kernel
theorem dX5_save_21 : decode cX5_save 21 = .ok (.aload_n 0, 1) := by decide +kernel
theorem dX5_save_22 : decode cX5_save 22 = .ok (.getfield 19, 3) := by decide +kernel
theorem dX5_save_25 : decode cX5_save 25 = .ok (.bipush 92, 2) := by decide +kernel
theorem dX5_save_27 : decode cX5_save 27 = .ok (.iload_n 1, 1) := by decide +kernel
theorem dX5_save_28 : decode cX5_save 28 = .ok (.imul, 1) := by decide +kernel
theorem dX5_save_29 : decode cX5_save 29 = .ok (.iload_n 2, 1) := by decide +kernel
theorem dX5_save_30 : decode cX5_save 30 = .ok (.iadd, 1) := by decide +kernel
theorem dX5_save_31 : decode cX5_save 31 = .ok (.aload_n 0, 1) := by decide +kernel
theorem dX5_save_32 : decode cX5_save 32 = .ok (.getfield 7, 3) := by decide +kernel
theorem dX5_save_35 : decode cX5_save 35 = .ok (.iload_n 2, 1) := by decide +kernel
theorem dX5_save_36 : decode cX5_save 36 = .ok (.iaload, 1) := by decide +kernel
theorem dX5_save_37 : decode cX5_save 37 = .ok (.iastore, 1) := by decide +kernel
theorem dX5_save_38 : decode cX5_save 38 = .ok (.iinc 2 1, 3) := by decide +kernel
theorem dX5_save_41 : decode cX5_save 41 = .ok (.goto (-26), 3) := by decide +kernel
theorem dX5_save_44 : decode cX5_save 44 = .ok (.aload_n 0, 1) := by decide +kernel
theorem dX5_save_45 : decode cX5_save 45 = .ok (.getfield 22, 3) := by decide +kernel
theorem dX5_save_48 : decode cX5_save 48 = .ok (.iload_n 1, 1) := by decide +kernel
theorem dX5_save_49 : decode cX5_save 49 = .ok (.iconst 1, 1) := by decide +kernel
theorem dX5_save_50 : decode cX5_save 50 = .ok (.iastore, 1) := by decide +kernel
theorem dX5_save_51 : decode cX5_save 51 = .ok (.aload_n 0, 1) := by decide +kernel
theorem dX5_save_52 : decode cX5_save 52 = .ok (.getfield 7, 3) := by decide +kernel
theorem dX5_save_55 : decode cX5_save 55 = .ok (.iconst 1, 1) := by decide +kernel
theorem dX5_save_56 : decode cX5_save 56 = .ok (.iaload, 1) := by decide +kernel
theorem dX5_save_57 : decode cX5_save 57 = .ok (.ireturn, 1) := by decide +kernel
theorem dX5_restore_0 : decode cX5_restore 0 = .ok (.iload_n 1, 1) := by decide +kernel
theorem dX5_restore_1 : decode cX5_restore 1 = .ok (.i2l, 1) := by decide +kernel
theorem dX5_restore_2 : decode cX5_restore 2 = .ok (.lconst 0, 1) := by decide +kernel
theorem dX5_restore_3 : decode cX5_restore 3 = .ok (.lconst 1, 1) := by decide +kernel
theorem dX5_restore_4 : decode cX5_restore 4 = .ok (.invokestatic 38, 3) := by decide +kernel
theorem dX5_restore_7 : decode cX5_restore 7 = .ok (.ifCond .ne 6, 3) := by decide +kernel
theorem dX5_restore_10 : decode cX5_restore 10 = .ok (.bipush (-2), 2) := by decide +kernel
theorem dX5_restore_12 : decode cX5_restore 12 = .ok (.ireturn, 1) := by decide +kernel
theorem dX5_restore_13 : decode cX5_restore 13 = .ok (.aload_n 0, 1) := by decide +kernel
theorem dX5_restore_14 : decode cX5_restore 14 = .ok (.getfield 22, 3) := by decide +kernel
theorem dX5_restore_17 : decode cX5_restore 17 = .ok (.iload_n 1, 1) := by decide +kernel
theorem dX5_restore_18 : decode cX5_restore 18 = .ok (.iaload, 1) := by decide +kernel
theorem dX5_restore_19 : decode cX5_restore 19 = .ok (.ifCond .ne 6, 3) := by decide +kernel
theorem dX5_restore_22 : decode cX5_restore 22 = .ok (.bipush (-5), 2) := by decide +kernel
theorem dX5_restore_24 : decode cX5_restore 24 = .ok (.ireturn, 1) := by decide +kernel
theorem dX5_restore_25 : decode cX5_restore 25 = .ok (.aload_n 0, 1) := by decide +kernel
theorem dX5_restore_26 : decode cX5_restore 26 = .ok (.invokevirtual 72, 3) := by decide +kernel
theorem dX5_restore_29 : decode cX5_restore 29 = .ok (.iconst 0, 1) := by decide +kernel
theorem dX5_restore_30 : decode cX5_restore 30 = .ok (.istore_n 2, 1) := by decide +kernel
theorem dX5_restore_31 : decode cX5_restore 31 = .ok (.iload_n 2, 1) := by decide +kernel
theorem dX5_restore_32 : decode cX5_restore 32 = .ok (.bipush 92, 2) := by decide +kernel
theorem dX5_restore_34 : decode cX5_restore 34 = .ok (.if_icmp .ge 26, 3) := by decide +kernel
theorem dX5_restore_37 : decode cX5_restore 37 = .ok (.aload_n 0, 1) := by decide +kernel
theorem dX5_restore_38 : decode cX5_restore 38 = .ok (.getfield 7, 3) := by decide +kernel
theorem dX5_restore_41 : decode cX5_restore 41 = .ok (.iload_n 2, 1) := by decide +kernel
theorem dX5_restore_42 : decode cX5_restore 42 = .ok (.aload_n 0, 1) := by decide +kernel
theorem dX5_restore_43 : decode cX5_restore 43 = .ok (.getfield 19, 3) := by decide +kernel
theorem dX5_restore_46 : decode cX5_restore 46 = .ok (.bipush 92, 2) := by decide +kernel
theorem dX5_restore_48 : decode cX5_restore 48 = .ok (.iload_n 1, 1) := by decide +kernel
theorem dX5_restore_49 : decode cX5_restore 49 = .ok (.imul, 1) := by decide +kernel
theorem dX5_restore_50 : decode cX5_restore 50 = .ok (.iload_n 2, 1) := by decide +kernel
theorem dX5_restore_51 : decode cX5_restore 51 = .ok (.iadd, 1) := by decide +kernel
theorem dX5_restore_52 : decode cX5_restore 52 = .ok (.iaload, 1) := by decide +kernel
theorem dX5_restore_53 : decode cX5_restore 53 = .ok (.iastore, 1) := by decide +kernel
theorem dX5_restore_54 : decode cX5_restore 54 = .ok (.iinc 2 1, 3) := by decide +kernel
theorem dX5_restore_57 : decode cX5_restore 57 = .ok (.goto (-26), 3) := by decide +kernel
theorem dX5_restore_60 : decode cX5_restore 60 = .ok (.aload_n 0, 1) := by decide +kernel
theorem dX5_restore_61 : decode cX5_restore 61 = .ok (.aload_n 0, 1) := by decide +kernel
theorem dX5_restore_62 : decode cX5_restore 62 = .ok (.getfield 7, 3) := by decide +kernel
theorem dX5_restore_65 : decode cX5_restore 65 = .ok (.iconst 1, 1) := by decide +kernel
theorem dX5_restore_66 : decode cX5_restore 66 = .ok (.iaload, 1) := by decide +kernel
theorem dX5_restore_67 : decode cX5_restore 67 = .ok (.invokevirtual 75, 3) := by decide +kernel
theorem dX5_restore_70 : decode cX5_restore 70 = .ok (.ireturn, 1) := by decide +kernel
theorem dJ6_bitCount_0f7a4_0 : decode cJ6_bitCount_0f7a4 0 = .ok (.iload_n 0, 1) := by decide +kernel
theorem dJ6_bitCount_0f7a4_1 : decode cJ6_bitCount_0f7a4 1 = .ok (.iload_n 0, 1) := by decide +kernel
theorem dJ6_bitCount_0f7a4_2 : decode cJ6_bitCount_0f7a4 2 = .ok (.iconst 1, 1) := by decide +kernel
theorem dJ6_bitCount_0f7a4_3 : decode cJ6_bitCount_0f7a4 3 = .ok (.iushr, 1) := by decide +kernel
theorem dJ6_bitCount_0f7a4_4 : decode cJ6_bitCount_0f7a4 4 = .ok (.ldc_w 265, 3) := by decide +kernel
theorem dJ6_bitCount_0f7a4_7 : decode cJ6_bitCount_0f7a4 7 = .ok (.iand, 1) := by decide +kernel
theorem dJ6_bitCount_0f7a4_8 : decode cJ6_bitCount_0f7a4 8 = .ok (.isub, 1) := by decide +kernel
theorem dJ6_bitCount_0f7a4_9 : decode cJ6_bitCount_0f7a4 9 = .ok (.istore_n 0, 1) := by decide +kernel
theorem dJ6_bitCount_0f7a4_10 : decode cJ6_bitCount_0f7a4 10 = .ok (.iload_n 0, 1) := by decide +kernel
theorem dJ6_bitCount_0f7a4_11 : decode cJ6_bitCount_0f7a4 11 = .ok (.ldc_w 266, 3) := by decide +kernel
theorem dJ6_bitCount_0f7a4_14 : decode cJ6_bitCount_0f7a4 14 = .ok (.iand, 1) := by decide +kernel
theorem dJ6_bitCount_0f7a4_15 : decode cJ6_bitCount_0f7a4 15 = .ok (.iload_n 0, 1) := by decide +kernel
theorem dJ6_bitCount_0f7a4_16 : decode cJ6_bitCount_0f7a4 16 = .ok (.iconst 2, 1) := by decide +kernel
theorem dJ6_bitCount_0f7a4_17 : decode cJ6_bitCount_0f7a4 17 = .ok (.iushr, 1) := by decide +kernel
theorem dJ6_bitCount_0f7a4_18 : decode cJ6_bitCount_0f7a4 18 = .ok (.ldc_w 266, 3) := by decide +kernel
theorem dJ6_bitCount_0f7a4_21 : decode cJ6_bitCount_0f7a4 21 = .ok (.iand, 1) := by decide +kernel
theorem dJ6_bitCount_0f7a4_22 : decode cJ6_bitCount_0f7a4 22 = .ok (.iadd, 1) := by decide +kernel
theorem dJ6_bitCount_0f7a4_23 : decode cJ6_bitCount_0f7a4 23 = .ok (.istore_n 0, 1) := by decide +kernel
theorem dJ6_bitCount_0f7a4_24 : decode cJ6_bitCount_0f7a4 24 = .ok (.iload_n 0, 1) := by decide +kernel
theorem dJ6_bitCount_0f7a4_25 : decode cJ6_bitCount_0f7a4 25 = .ok (.iload_n 0, 1) := by decide +kernel
theorem dJ6_bitCount_0f7a4_26 : decode cJ6_bitCount_0f7a4 26 = .ok (.iconst 4, 1) := by decide +kernel
theorem dJ6_bitCount_0f7a4_27 : decode cJ6_bitCount_0f7a4 27 = .ok (.iushr, 1) := by decide +kernel
theorem dJ6_bitCount_0f7a4_28 : decode cJ6_bitCount_0f7a4 28 = .ok (.iadd, 1) := by decide +kernel
theorem dJ6_bitCount_0f7a4_29 : decode cJ6_bitCount_0f7a4 29 = .ok (.ldc_w 267, 3) := by decide +kernel
theorem dJ6_bitCount_0f7a4_32 : decode cJ6_bitCount_0f7a4 32 = .ok (.iand, 1) := by decide +kernel
theorem dJ6_bitCount_0f7a4_33 : decode cJ6_bitCount_0f7a4 33 = .ok (.istore_n 0, 1) := by decide +kernel
theorem dJ6_bitCount_0f7a4_34 : decode cJ6_bitCount_0f7a4 34 = .ok (.iload_n 0, 1) := by decide +kernel
theorem dJ6_bitCount_0f7a4_35 : decode cJ6_bitCount_0f7a4 35 = .ok (.iload_n 0, 1) := by decide +kernel
theorem dJ6_bitCount_0f7a4_36 : decode cJ6_bitCount_0f7a4 36 = .ok (.bipush 8, 2) := by decide +kernel
theorem dJ6_bitCount_0f7a4_38 : decode cJ6_bitCount_0f7a4 38 = .ok (.iushr, 1) := by decide +kernel
theorem dJ6_bitCount_0f7a4_39 : decode cJ6_bitCount_0f7a4 39 = .ok (.iadd, 1) := by decide +kernel
theorem dJ6_bitCount_0f7a4_40 : decode cJ6_bitCount_0f7a4 40 = .ok (.istore_n 0, 1) := by decide +kernel
theorem dJ6_bitCount_0f7a4_41 : decode cJ6_bitCount_0f7a4 41 = .ok (.iload_n 0, 1) := by decide +kernel
theorem dJ6_bitCount_0f7a4_42 : decode cJ6_bitCount_0f7a4 42 = .ok (.iload_n 0, 1) := by decide +kernel
theorem dJ6_bitCount_0f7a4_43 : decode cJ6_bitCount_0f7a4 43 = .ok (.bipush 16, 2) := by decide +kernel
theorem dJ6_bitCount_0f7a4_45 : decode cJ6_bitCount_0f7a4 45 = .ok (.iushr, 1) := by decide +kernel
theorem dJ6_bitCount_0f7a4_46 : decode cJ6_bitCount_0f7a4 46 = .ok (.iadd, 1) := by decide +kernel
theorem dJ6_bitCount_0f7a4_47 : decode cJ6_bitCount_0f7a4 47 = .ok (.istore_n 0, 1) := by decide +kernel
theorem dJ6_bitCount_0f7a4_48 : decode cJ6_bitCount_0f7a4 48 = .ok (.iload_n 0, 1) := by decide +kernel
theorem dJ6_bitCount_0f7a4_49 : decode cJ6_bitCount_0f7a4 49 = .ok (.bipush 63, 2) := by decide +kernel
theorem dJ6_bitCount_0f7a4_51 : decode cJ6_bitCount_0f7a4 51 = .ok (.iand, 1) := by decide +kernel
theorem dJ6_bitCount_0f7a4_52 : decode cJ6_bitCount_0f7a4 52 = .ok (.ireturn, 1) := by decide +kernel
theorem dJ9_max_7cf53_0 : decode cJ9_max_7cf53 0 = .ok (.iload_n 0, 1) := by decide +kernel
theorem dJ9_max_7cf53_1 : decode cJ9_max_7cf53 1 = .ok (.iload_n 1, 1) := by decide +kernel
theorem dJ9_max_7cf53_2 : decode cJ9_max_7cf53 2 = .ok (.if_icmp .lt 7, 3) := by decide +kernel
theorem dJ9_max_7cf53_5 : decode cJ9_max_7cf53 5 = .ok (.iload_n 0, 1) := by decide +kernel
theorem dJ9_max_7cf53_6 : decode cJ9_max_7cf53 6 = .ok (.goto 4, 3) := by decide +kernel
theorem dJ9_max_7cf53_9 : decode cJ9_max_7cf53 9 = .ok (.iload_n 1, 1) := by decide +kernel
theorem dJ9_max_7cf53_10 : decode cJ9_max_7cf53 10 = .ok (.ireturn, 1) := by decide +kernel
theorem dJ9_min_7cf53_0 : decode cJ9_min_7cf53 0 = .ok (.iload_n 0, 1) := by decide +kernel
theorem dJ9_min_7cf53_1 : decode cJ9_min_7cf53 1 = .ok (.iload_n 1, 1) := by decide +kernel
theorem dJ9_min_7cf53_2 : decode cJ9_min_7cf53 2 = .ok (.if_icmp .gt 7, 3) := by decide +kernel
theorem dJ9_min_7cf53_5 : decode cJ9_min_7cf53 5 = .ok (.iload_n 0, 1) := by decide +kernel
theorem dJ9_min_7cf53_6 : decode cJ9_min_7cf53 6 = .ok (.goto 4, 3) := by decide +kernel
theorem dJ9_min_7cf53_9 : decode cJ9_min_7cf53 9 = .ok (.iload_n 1, 1) := by decide +kernel
theorem dJ9_min_7cf53_10 : decode cJ9_min_7cf53 10 = .ok (.ireturn, 1) := by decide +kernel


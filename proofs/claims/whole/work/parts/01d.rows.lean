theorem dX2_feed_101 : decode cX2_feed 101 = .ok (.iload_n 1, 1) := by decide +kernel
theorem dX2_feed_102 : decode cX2_feed 102 = .ok (.ifCond .ge 16, 3) := by decide +kernel
theorem dX2_feed_105 : decode cX2_feed 105 = .ok (.aload_n 0, 1) := by decide +kernel
theorem dX2_feed_106 : decode cX2_feed 106 = .ok (.getfield 9, 3) := by decide +kernel
theorem dX2_feed_109 : decode cX2_feed 109 = .ok (.iconst 4, 1) := by decide +kernel
theorem dX2_feed_110 : decode cX2_feed 110 = .ok (.dup2, 1) := by decide +kernel
theorem dX2_feed_111 : decode cX2_feed 111 = .ok (.iaload, 1) := by decide +kernel
theorem dX2_feed_112 : decode cX2_feed 112 = .ok (.iload_n 1, 1) := by decide +kernel
theorem dX2_feed_113 : decode cX2_feed 113 = .ok (.isub, 1) := by decide +kernel
theorem dX2_feed_114 : decode cX2_feed 114 = .ok (.iastore, 1) := by decide +kernel
theorem dX2_feed_115 : decode cX2_feed 115 = .ok (.goto 13, 3) := by decide +kernel
theorem dX2_feed_118 : decode cX2_feed 118 = .ok (.aload_n 0, 1) := by decide +kernel
theorem dX2_feed_119 : decode cX2_feed 119 = .ok (.dup, 1) := by decide +kernel
theorem dX2_feed_120 : decode cX2_feed 120 = .ok (.getfield 22, 3) := by decide +kernel
theorem dX2_feed_123 : decode cX2_feed 123 = .ok (.iload_n 1, 1) := by decide +kernel
theorem dX2_feed_124 : decode cX2_feed 124 = .ok (.iadd, 1) := by decide +kernel
theorem dX2_feed_125 : decode cX2_feed 125 = .ok (.putfield 22, 3) := by decide +kernel
theorem dX2_feed_128 : decode cX2_feed 128 = .ok (.return_, 1) := by decide +kernel
theorem dX2_breed_0 : decode cX2_breed 0 = .ok (.aload_n 0, 1) := by decide +kernel
theorem dX2_breed_1 : decode cX2_breed 1 = .ok (.getfield 9, 3) := by decide +kernel
theorem dX2_breed_4 : decode cX2_breed 4 = .ok (.iconst 3, 1) := by decide +kernel
theorem dX2_breed_5 : decode cX2_breed 5 = .ok (.iaload, 1) := by decide +kernel
theorem dX2_breed_6 : decode cX2_breed 6 = .ok (.iconst 2, 1) := by decide +kernel
theorem dX2_breed_7 : decode cX2_breed 7 = .ok (.if_icmp .lt 13, 3) := by decide +kernel
theorem dX2_breed_10 : decode cX2_breed 10 = .ok (.aload_n 0, 1) := by decide +kernel
theorem dX2_breed_11 : decode cX2_breed 11 = .ok (.getfield 9, 3) := by decide +kernel
theorem dX2_breed_14 : decode cX2_breed 14 = .ok (.iconst 3, 1) := by decide +kernel
theorem dX2_breed_15 : decode cX2_breed 15 = .ok (.dup2, 1) := by decide +kernel
theorem dX2_breed_16 : decode cX2_breed 16 = .ok (.iaload, 1) := by decide +kernel
theorem dX2_breed_17 : decode cX2_breed 17 = .ok (.iconst 1, 1) := by decide +kernel
theorem dX2_breed_18 : decode cX2_breed 18 = .ok (.iadd, 1) := by decide +kernel
theorem dX2_breed_19 : decode cX2_breed 19 = .ok (.iastore, 1) := by decide +kernel
theorem dX2_breed_20 : decode cX2_breed 20 = .ok (.return_, 1) := by decide +kernel
theorem dX2_foodNeeded_0 : decode cX2_foodNeeded 0 = .ok (.iconst 2, 1) := by decide +kernel
theorem dX2_foodNeeded_1 : decode cX2_foodNeeded 1 = .ok (.aload_n 0, 1) := by decide +kernel
theorem dX2_foodNeeded_2 : decode cX2_foodNeeded 2 = .ok (.getfield 15, 3) := by decide +kernel
theorem dX2_foodNeeded_5 : decode cX2_foodNeeded 5 = .ok (.imul, 1) := by decide +kernel
theorem dX2_foodNeeded_6 : decode cX2_foodNeeded 6 = .ok (.aload_n 0, 1) := by decide +kernel
theorem dX2_foodNeeded_7 : decode cX2_foodNeeded 7 = .ok (.getfield 34, 3) := by decide +kernel
theorem dX2_foodNeeded_10 : decode cX2_foodNeeded 10 = .ok (.isub, 1) := by decide +kernel
theorem dX2_foodNeeded_11 : decode cX2_foodNeeded 11 = .ok (.ireturn, 1) := by decide +kernel
theorem dX2_foodMissing_0 : decode cX2_foodMissing 0 = .ok (.aload_n 0, 1) := by decide +kernel
theorem dX2_foodMissing_1 : decode cX2_foodMissing 1 = .ok (.iconst 3, 1) := by decide +kernel
theorem dX2_foodMissing_2 : decode cX2_foodMissing 2 = .ok (.invokevirtual 55, 3) := by decide +kernel
theorem dX2_foodMissing_5 : decode cX2_foodMissing 5 = .ok (.ifCond .eq 7, 3) := by decide +kernel
theorem dX2_foodMissing_8 : decode cX2_foodMissing 8 = .ok (.iconst 4, 1) := by decide +kernel
theorem dX2_foodMissing_9 : decode cX2_foodMissing 9 = .ok (.goto 4, 3) := by decide +kernel
theorem dX2_foodMissing_12 : decode cX2_foodMissing 12 = .ok (.iconst 2, 1) := by decide +kernel
theorem dX2_foodMissing_13 : decode cX2_foodMissing 13 = .ok (.istore_n 1, 1) := by decide +kernel
theorem dX2_foodMissing_14 : decode cX2_foodMissing 14 = .ok (.aload_n 0, 1) := by decide +kernel
theorem dX2_foodMissing_15 : decode cX2_foodMissing 15 = .ok (.getfield 9, 3) := by decide +kernel
theorem dX2_foodMissing_18 : decode cX2_foodMissing 18 = .ok (.iconst 4, 1) := by decide +kernel
theorem dX2_foodMissing_19 : decode cX2_foodMissing 19 = .ok (.iaload, 1) := by decide +kernel
theorem dX2_foodMissing_20 : decode cX2_foodMissing 20 = .ok (.aload_n 0, 1) := by decide +kernel
theorem dX2_foodMissing_21 : decode cX2_foodMissing 21 = .ok (.getfield 9, 3) := by decide +kernel
theorem dX2_foodMissing_24 : decode cX2_foodMissing 24 = .ok (.iconst 2, 1) := by decide +kernel
theorem dX2_foodMissing_25 : decode cX2_foodMissing 25 = .ok (.iaload, 1) := by decide +kernel
theorem dX2_foodMissing_26 : decode cX2_foodMissing 26 = .ok (.iadd, 1) := by decide +kernel
theorem dX2_foodMissing_27 : decode cX2_foodMissing 27 = .ok (.aload_n 0, 1) := by decide +kernel
theorem dX2_foodMissing_28 : decode cX2_foodMissing 28 = .ok (.getfield 9, 3) := by decide +kernel
theorem dX2_foodMissing_31 : decode cX2_foodMissing 31 = .ok (.iconst 3, 1) := by decide +kernel
theorem dX2_foodMissing_32 : decode cX2_foodMissing 32 = .ok (.iaload, 1) := by decide +kernel
theorem dX2_foodMissing_33 : decode cX2_foodMissing 33 = .ok (.iload_n 1, 1) := by decide +kernel
theorem dX2_foodMissing_34 : decode cX2_foodMissing 34 = .ok (.imul, 1) := by decide +kernel
theorem dX2_foodMissing_35 : decode cX2_foodMissing 35 = .ok (.iadd, 1) := by decide +kernel
theorem dX2_foodMissing_36 : decode cX2_foodMissing 36 = .ok (.istore_n 2, 1) := by decide +kernel
theorem dX2_foodMissing_37 : decode cX2_foodMissing 37 = .ok (.iconst 0, 1) := by decide +kernel
theorem dX2_foodMissing_38 : decode cX2_foodMissing 38 = .ok (.aload_n 0, 1) := by decide +kernel
theorem dX2_foodMissing_39 : decode cX2_foodMissing 39 = .ok (.invokevirtual 65, 3) := by decide +kernel
theorem dX2_foodMissing_42 : decode cX2_foodMissing 42 = .ok (.iload_n 2, 1) := by decide +kernel
theorem dX2_foodMissing_43 : decode cX2_foodMissing 43 = .ok (.isub, 1) := by decide +kernel
theorem dX2_foodMissing_44 : decode cX2_foodMissing 44 = .ok (.invokestatic 46, 3) := by decide +kernel
theorem dX2_foodMissing_47 : decode cX2_foodMissing 47 = .ok (.ireturn, 1) := by decide +kernel
theorem dX2_foodOfMilledGrain_0 : decode cX2_foodOfMilledGrain 0 = .ok (.aload_n 0, 1) := by decide +kernel
theorem dX2_foodOfMilledGrain_1 : decode cX2_foodOfMilledGrain 1 = .ok (.iconst 0, 1) := by decide +kernel
theorem dX2_foodOfMilledGrain_2 : decode cX2_foodOfMilledGrain 2 = .ok (.invokevirtual 55, 3) := by decide +kernel
theorem dX2_foodOfMilledGrain_5 : decode cX2_foodOfMilledGrain 5 = .ok (.ifCond .eq 7, 3) := by decide +kernel
theorem dX2_foodOfMilledGrain_8 : decode cX2_foodOfMilledGrain 8 = .ok (.iconst 5, 1) := by decide +kernel
theorem dX2_foodOfMilledGrain_9 : decode cX2_foodOfMilledGrain 9 = .ok (.goto 4, 3) := by decide +kernel
theorem dX2_foodOfMilledGrain_12 : decode cX2_foodOfMilledGrain 12 = .ok (.iconst 3, 1) := by decide +kernel
theorem dX2_foodOfMilledGrain_13 : decode cX2_foodOfMilledGrain 13 = .ok (.ireturn, 1) := by decide +kernel
theorem dX2_scorePart_0 : decode cX2_scorePart 0 = .ok (.iload_n 1, 1) := by decide +kernel
theorem dX2_scorePart_1 : decode cX2_scorePart 1 = .ok (.tableswitch 72 0 4 #[35, 42, 47, 58, 67], 35) := by decide +kernel
theorem dX2_scorePart_36 : decode cX2_scorePart 36 = .ok (.iconst 3, 1) := by decide +kernel
theorem dX2_scorePart_37 : decode cX2_scorePart 37 = .ok (.aload_n 0, 1) := by decide +kernel
theorem dX2_scorePart_38 : decode cX2_scorePart 38 = .ok (.getfield 15, 3) := by decide +kernel
theorem dX2_scorePart_41 : decode cX2_scorePart 41 = .ok (.imul, 1) := by decide +kernel
theorem dX2_scorePart_42 : decode cX2_scorePart 42 = .ok (.ireturn, 1) := by decide +kernel
theorem dX2_scorePart_43 : decode cX2_scorePart 43 = .ok (.aload_n 0, 1) := by decide +kernel
theorem dX2_scorePart_44 : decode cX2_scorePart 44 = .ok (.getfield 19, 3) := by decide +kernel
theorem dX2_scorePart_47 : decode cX2_scorePart 47 = .ok (.ireturn, 1) := by decide +kernel
theorem dX2_scorePart_48 : decode cX2_scorePart 48 = .ok (.iconst 5, 1) := by decide +kernel
theorem dX2_scorePart_49 : decode cX2_scorePart 49 = .ok (.aload_n 0, 1) := by decide +kernel
theorem dX2_scorePart_50 : decode cX2_scorePart 50 = .ok (.getfield 9, 3) := by decide +kernel
theorem dX2_scorePart_53 : decode cX2_scorePart 53 = .ok (.iconst 3, 1) := by decide +kernel
theorem dX2_scorePart_54 : decode cX2_scorePart 54 = .ok (.iaload, 1) := by decide +kernel
theorem dX2_scorePart_55 : decode cX2_scorePart 55 = .ok (.invokestatic 69, 3) := by decide +kernel
theorem dX2_scorePart_58 : decode cX2_scorePart 58 = .ok (.ireturn, 1) := by decide +kernel
theorem dX2_scorePart_59 : decode cX2_scorePart 59 = .ok (.aload_n 0, 1) := by decide +kernel
theorem dX2_scorePart_60 : decode cX2_scorePart 60 = .ok (.getfield 9, 3) := by decide +kernel
theorem dX2_scorePart_63 : decode cX2_scorePart 63 = .ok (.iconst 2, 1) := by decide +kernel
theorem dX2_scorePart_64 : decode cX2_scorePart 64 = .ok (.iaload, 1) := by decide +kernel
theorem dX2_scorePart_65 : decode cX2_scorePart 65 = .ok (.iconst 2, 1) := by decide +kernel
theorem dX2_scorePart_66 : decode cX2_scorePart 66 = .ok (.idiv, 1) := by decide +kernel
theorem dX2_scorePart_67 : decode cX2_scorePart 67 = .ok (.ireturn, 1) := by decide +kernel
theorem dX2_scorePart_68 : decode cX2_scorePart 68 = .ok (.aload_n 0, 1) := by decide +kernel
theorem dX2_scorePart_69 : decode cX2_scorePart 69 = .ok (.invokevirtual 72, 3) := by decide +kernel
theorem dX2_scorePart_72 : decode cX2_scorePart 72 = .ok (.ireturn, 1) := by decide +kernel
theorem dX2_scorePart_73 : decode cX2_scorePart 73 = .ok (.bipush (-3), 2) := by decide +kernel
theorem dX2_scorePart_75 : decode cX2_scorePart 75 = .ok (.aload_n 0, 1) := by decide +kernel
theorem dX2_scorePart_76 : decode cX2_scorePart 76 = .ok (.getfield 22, 3) := by decide +kernel
theorem dX2_scorePart_79 : decode cX2_scorePart 79 = .ok (.imul, 1) := by decide +kernel
theorem dX2_scorePart_80 : decode cX2_scorePart 80 = .ok (.ireturn, 1) := by decide +kernel
theorem dX2_buildingPoints_0 : decode cX2_buildingPoints 0 = .ok (.iconst 0, 1) := by decide +kernel
theorem dX2_buildingPoints_1 : decode cX2_buildingPoints 1 = .ok (.istore_n 1, 1) := by decide +kernel
theorem dX2_buildingPoints_2 : decode cX2_buildingPoints 2 = .ok (.iconst 0, 1) := by decide +kernel
theorem dX2_buildingPoints_3 : decode cX2_buildingPoints 3 = .ok (.istore_n 2, 1) := by decide +kernel
theorem dX2_buildingPoints_4 : decode cX2_buildingPoints 4 = .ok (.iload_n 2, 1) := by decide +kernel
theorem dX2_buildingPoints_5 : decode cX2_buildingPoints 5 = .ok (.bipush 8, 2) := by decide +kernel
theorem dX2_buildingPoints_7 : decode cX2_buildingPoints 7 = .ok (.if_icmp .ge 26, 3) := by decide +kernel
theorem dX2_buildingPoints_10 : decode cX2_buildingPoints 10 = .ok (.iload_n 1, 1) := by decide +kernel
theorem dX2_buildingPoints_11 : decode cX2_buildingPoints 11 = .ok (.getstatic 75, 3) := by decide +kernel
theorem dX2_buildingPoints_14 : decode cX2_buildingPoints 14 = .ok (.iload_n 2, 1) := by decide +kernel
theorem dX2_buildingPoints_15 : decode cX2_buildingPoints 15 = .ok (.iaload, 1) := by decide +kernel
theorem dX2_buildingPoints_16 : decode cX2_buildingPoints 16 = .ok (.aload_n 0, 1) := by decide +kernel
theorem dX2_buildingPoints_17 : decode cX2_buildingPoints 17 = .ok (.getfield 25, 3) := by decide +kernel
theorem dX2_buildingPoints_20 : decode cX2_buildingPoints 20 = .ok (.iload_n 2, 1) := by decide +kernel
theorem dX2_buildingPoints_21 : decode cX2_buildingPoints 21 = .ok (.ishr, 1) := by decide +kernel
theorem dX2_buildingPoints_22 : decode cX2_buildingPoints 22 = .ok (.iconst 1, 1) := by decide +kernel
theorem dX2_buildingPoints_23 : decode cX2_buildingPoints 23 = .ok (.iand, 1) := by decide +kernel
theorem dX2_buildingPoints_24 : decode cX2_buildingPoints 24 = .ok (.imul, 1) := by decide +kernel
theorem dX2_buildingPoints_25 : decode cX2_buildingPoints 25 = .ok (.iadd, 1) := by decide +kernel
theorem dX2_buildingPoints_26 : decode cX2_buildingPoints 26 = .ok (.istore_n 1, 1) := by decide +kernel
theorem dX2_buildingPoints_27 : decode cX2_buildingPoints 27 = .ok (.iinc 2 1, 3) := by decide +kernel
theorem dX2_buildingPoints_30 : decode cX2_buildingPoints 30 = .ok (.goto (-26), 3) := by decide +kernel
theorem dX2_buildingPoints_33 : decode cX2_buildingPoints 33 = .ok (.iload_n 1, 1) := by decide +kernel
theorem dX2_buildingPoints_34 : decode cX2_buildingPoints 34 = .ok (.ireturn, 1) := by decide +kernel
theorem dX2_wholeScore_0 : decode cX2_wholeScore 0 = .ok (.iconst 0, 1) := by decide +kernel
theorem dX2_wholeScore_1 : decode cX2_wholeScore 1 = .ok (.istore_n 1, 1) := by decide +kernel
theorem dX2_wholeScore_2 : decode cX2_wholeScore 2 = .ok (.iconst 0, 1) := by decide +kernel
theorem dX2_wholeScore_3 : decode cX2_wholeScore 3 = .ok (.istore_n 2, 1) := by decide +kernel
theorem dX2_wholeScore_4 : decode cX2_wholeScore 4 = .ok (.iload_n 2, 1) := by decide +kernel
theorem dX2_wholeScore_5 : decode cX2_wholeScore 5 = .ok (.bipush 6, 2) := by decide +kernel
theorem dX2_wholeScore_7 : decode cX2_wholeScore 7 = .ok (.if_icmp .ge 17, 3) := by decide +kernel
theorem dX2_wholeScore_10 : decode cX2_wholeScore 10 = .ok (.iload_n 1, 1) := by decide +kernel
theorem dX2_wholeScore_11 : decode cX2_wholeScore 11 = .ok (.aload_n 0, 1) := by decide +kernel
theorem dX2_wholeScore_12 : decode cX2_wholeScore 12 = .ok (.iload_n 2, 1) := by decide +kernel
theorem dX2_wholeScore_13 : decode cX2_wholeScore 13 = .ok (.invokevirtual 78, 3) := by decide +kernel
theorem dX2_wholeScore_16 : decode cX2_wholeScore 16 = .ok (.iadd, 1) := by decide +kernel
theorem dX2_wholeScore_17 : decode cX2_wholeScore 17 = .ok (.istore_n 1, 1) := by decide +kernel
theorem dX2_wholeScore_18 : decode cX2_wholeScore 18 = .ok (.iinc 2 1, 3) := by decide +kernel
theorem dX2_wholeScore_21 : decode cX2_wholeScore 21 = .ok (.goto (-17), 3) := by decide +kernel
theorem dX2_wholeScore_24 : decode cX2_wholeScore 24 = .ok (.iload_n 1, 1) := by decide +kernel
theorem dX2_wholeScore_25 : decode cX2_wholeScore 25 = .ok (.ireturn, 1) := by decide +kernel
theorem dX2_isAheadOf_0 : decode cX2_isAheadOf 0 = .ok (.aload_n 0, 1) := by decide +kernel
theorem dX2_isAheadOf_1 : decode cX2_isAheadOf 1 = .ok (.invokevirtual 82, 3) := by decide +kernel
theorem dX2_isAheadOf_4 : decode cX2_isAheadOf 4 = .ok (.istore_n 2, 1) := by decide +kernel
theorem dX2_isAheadOf_5 : decode cX2_isAheadOf 5 = .ok (.aload_n 1, 1) := by decide +kernel
theorem dX2_isAheadOf_6 : decode cX2_isAheadOf 6 = .ok (.invokevirtual 82, 3) := by decide +kernel
theorem dX2_isAheadOf_9 : decode cX2_isAheadOf 9 = .ok (.istore_n 3, 1) := by decide +kernel
theorem dX2_isAheadOf_10 : decode cX2_isAheadOf 10 = .ok (.iload_n 2, 1) := by decide +kernel
theorem dX2_isAheadOf_11 : decode cX2_isAheadOf 11 = .ok (.iload_n 3, 1) := by decide +kernel
theorem dX2_isAheadOf_12 : decode cX2_isAheadOf 12 = .ok (.if_icmp .gt 23, 3) := by decide +kernel
theorem dX2_isAheadOf_15 : decode cX2_isAheadOf 15 = .ok (.iload_n 2, 1) := by decide +kernel
theorem dX2_isAheadOf_16 : decode cX2_isAheadOf 16 = .ok (.iload_n 3, 1) := by decide +kernel
theorem dX2_isAheadOf_17 : decode cX2_isAheadOf 17 = .ok (.if_icmp .ne 22, 3) := by decide +kernel
theorem dX2_isAheadOf_20 : decode cX2_isAheadOf 20 = .ok (.aload_n 0, 1) := by decide +kernel
theorem dX2_isAheadOf_21 : decode cX2_isAheadOf 21 = .ok (.getfield 9, 3) := by decide +kernel
theorem dX2_isAheadOf_24 : decode cX2_isAheadOf 24 = .ok (.iconst 4, 1) := by decide +kernel
theorem dX2_isAheadOf_25 : decode cX2_isAheadOf 25 = .ok (.iaload, 1) := by decide +kernel
theorem dX2_isAheadOf_26 : decode cX2_isAheadOf 26 = .ok (.aload_n 1, 1) := by decide +kernel
theorem dX2_isAheadOf_27 : decode cX2_isAheadOf 27 = .ok (.getfield 9, 3) := by decide +kernel
theorem dX2_isAheadOf_30 : decode cX2_isAheadOf 30 = .ok (.iconst 4, 1) := by decide +kernel
theorem dX2_isAheadOf_31 : decode cX2_isAheadOf 31 = .ok (.iaload, 1) := by decide +kernel
theorem dX2_isAheadOf_32 : decode cX2_isAheadOf 32 = .ok (.if_icmp .le 7, 3) := by decide +kernel
theorem dX2_isAheadOf_35 : decode cX2_isAheadOf 35 = .ok (.iconst 1, 1) := by decide +kernel
theorem dX2_isAheadOf_36 : decode cX2_isAheadOf 36 = .ok (.goto 4, 3) := by decide +kernel
theorem dX2_isAheadOf_39 : decode cX2_isAheadOf 39 = .ok (.iconst 0, 1) := by decide +kernel
theorem dX2_isAheadOf_40 : decode cX2_isAheadOf 40 = .ok (.ireturn, 1) := by decide +kernel
theorem dX3_init_0 : decode cX3_init 0 = .ok (.aload_n 0, 1) := by decide +kernel
theorem dX3_init_1 : decode cX3_init 1 = .ok (.invokespecial 3, 3) := by decide +kernel
theorem dX3_init_4 : decode cX3_init 4 = .ok (.aload_n 0, 1) := by decide +kernel
theorem dX3_init_5 : decode cX3_init 5 = .ok (.new 9, 3) := by decide +kernel
theorem dX3_init_8 : decode cX3_init 8 = .ok (.dup, 1) := by decide +kernel
theorem dX3_init_9 : decode cX3_init 9 = .ok (.invokespecial 11, 3) := by decide +kernel
theorem dX3_init_12 : decode cX3_init 12 = .ok (.putfield 12, 3) := by decide +kernel
theorem dX3_init_15 : decode cX3_init 15 = .ok (.aload_n 0, 1) := by decide +kernel
theorem dX3_init_16 : decode cX3_init 16 = .ok (.iconst 3, 1) := by decide +kernel
theorem dX3_init_17 : decode cX3_init 17 = .ok (.anewarray 18, 3) := by decide +kernel
theorem dX3_init_20 : decode cX3_init 20 = .ok (.putfield 20, 3) := by decide +kernel
theorem dX3_init_23 : decode cX3_init 23 = .ok (.aload_n 0, 1) := by decide +kernel
theorem dX3_init_24 : decode cX3_init 24 = .ok (.new 18, 3) := by decide +kernel
theorem dX3_init_27 : decode cX3_init 27 = .ok (.dup, 1) := by decide +kernel
theorem dX3_init_28 : decode cX3_init 28 = .ok (.invokespecial 24, 3) := by decide +kernel
theorem dX3_init_31 : decode cX3_init 31 = .ok (.putfield 25, 3) := by decide +kernel
theorem dX3_init_34 : decode cX3_init 34 = .ok (.aload_n 0, 1) := by decide +kernel
theorem dX3_init_35 : decode cX3_init 35 = .ok (.iconst 3, 1) := by decide +kernel
theorem dX3_init_36 : decode cX3_init 36 = .ok (.bipush 40, 2) := by decide +kernel
theorem dX3_init_38 : decode cX3_init 38 = .ok (.multianewarray 29 2, 4) := by decide +kernel
theorem dX3_init_42 : decode cX3_init 42 = .ok (.putfield 31, 3) := by decide +kernel
theorem dX3_init_45 : decode cX3_init 45 = .ok (.aload_n 0, 1) := by decide +kernel
theorem dX3_init_46 : decode cX3_init 46 = .ok (.iconst 3, 1) := by decide +kernel
theorem dX3_init_47 : decode cX3_init 47 = .ok (.newarray .int, 2) := by decide +kernel
theorem dX3_init_49 : decode cX3_init 49 = .ok (.putfield 34, 3) := by decide +kernel
theorem dX3_init_52 : decode cX3_init 52 = .ok (.aload_n 0, 1) := by decide +kernel
theorem dX3_init_53 : decode cX3_init 53 = .ok (.iconst 3, 1) := by decide +kernel
theorem dX3_init_54 : decode cX3_init 54 = .ok (.newarray .int, 2) := by decide +kernel
theorem dX3_init_56 : decode cX3_init 56 = .ok (.putfield 38, 3) := by decide +kernel
theorem dX3_init_59 : decode cX3_init 59 = .ok (.iconst 0, 1) := by decide +kernel
theorem dX3_init_60 : decode cX3_init 60 = .ok (.istore_n 1, 1) := by decide +kernel
theorem dX3_init_61 : decode cX3_init 61 = .ok (.iload_n 1, 1) := by decide +kernel
theorem dX3_init_62 : decode cX3_init 62 = .ok (.iconst 3, 1) := by decide +kernel
theorem dX3_init_63 : decode cX3_init 63 = .ok (.if_icmp .ge 22, 3) := by decide +kernel
theorem dX3_init_66 : decode cX3_init 66 = .ok (.aload_n 0, 1) := by decide +kernel
theorem dX3_init_67 : decode cX3_init 67 = .ok (.getfield 20, 3) := by decide +kernel
theorem dX3_init_70 : decode cX3_init 70 = .ok (.iload_n 1, 1) := by decide +kernel
theorem dX3_init_71 : decode cX3_init 71 = .ok (.new 18, 3) := by decide +kernel
theorem dX3_init_74 : decode cX3_init 74 = .ok (.dup, 1) := by decide +kernel
theorem dX3_init_75 : decode cX3_init 75 = .ok (.invokespecial 24, 3) := by decide +kernel
theorem dX3_init_78 : decode cX3_init 78 = .ok (.aastore, 1) := by decide +kernel
theorem dX3_init_79 : decode cX3_init 79 = .ok (.iinc 1 1, 3) := by decide +kernel
theorem dX3_init_82 : decode cX3_init 82 = .ok (.goto (-21), 3) := by decide +kernel
theorem dX3_init_85 : decode cX3_init 85 = .ok (.return_, 1) := by decide +kernel
theorem dX3_run_0 : decode cX3_run 0 = .ok (.aload_n 0, 1) := by decide +kernel
theorem dX3_run_1 : decode cX3_run 1 = .ok (.iload_n 2, 1) := by decide +kernel
theorem dX3_run_2 : decode cX3_run 2 = .ok (.iconst 3, 1) := by decide +kernel
theorem dX3_run_3 : decode cX3_run 3 = .ok (.invokestatic 41, 3) := by decide +kernel
theorem dX3_run_6 : decode cX3_run 6 = .ok (.putfield 47, 3) := by decide +kernel
theorem dX3_run_9 : decode cX3_run 9 = .ok (.aload_n 0, 1) := by decide +kernel
theorem dX3_run_10 : decode cX3_run 10 = .ok (.iconst 0, 1) := by decide +kernel
theorem dX3_run_11 : decode cX3_run 11 = .ok (.putfield 51, 3) := by decide +kernel
theorem dX3_run_14 : decode cX3_run 14 = .ok (.aload_n 1, 1) := by decide +kernel
theorem dX3_run_15 : decode cX3_run 15 = .ok (.invokevirtual 54, 3) := by decide +kernel
theorem dX3_run_18 : decode cX3_run 18 = .ok (.ifCond .ne 16, 3) := by decide +kernel
theorem dX3_run_21 : decode cX3_run 21 = .ok (.aload_n 0, 1) := by decide +kernel
theorem dX3_run_22 : decode cX3_run 22 = .ok (.getfield 12, 3) := by decide +kernel
theorem dX3_run_25 : decode cX3_run 25 = .ok (.aload_n 1, 1) := by decide +kernel
theorem dX3_run_26 : decode cX3_run 26 = .ok (.invokevirtual 58, 3) := by decide +kernel
theorem dX3_run_29 : decode cX3_run 29 = .ok (.aload_n 0, 1) := by decide +kernel
theorem dX3_run_30 : decode cX3_run 30 = .ok (.iconst 0, 1) := by decide +kernel
theorem dX3_run_31 : decode cX3_run 31 = .ok (.invokevirtual 62, 3) := by decide +kernel
theorem dX3_run_34 : decode cX3_run 34 = .ok (.return_, 1) := by decide +kernel
theorem dX3_bestResult_0 : decode cX3_bestResult 0 = .ok (.aload_n 0, 1) := by decide +kernel
theorem dX3_bestResult_1 : decode cX3_bestResult 1 = .ok (.getfield 51, 3) := by decide +kernel
theorem dX3_bestResult_4 : decode cX3_bestResult 4 = .ok (.ifCond .ne 7, 3) := by decide +kernel
theorem dX3_bestResult_7 : decode cX3_bestResult 7 = .ok (.iconst (-1), 1) := by decide +kernel
theorem dX3_bestResult_8 : decode cX3_bestResult 8 = .ok (.goto 7, 3) := by decide +kernel
theorem dX3_bestResult_11 : decode cX3_bestResult 11 = .ok (.aload_n 0, 1) := by decide +kernel
theorem dX3_bestResult_12 : decode cX3_bestResult 12 = .ok (.getfield 66, 3) := by decide +kernel
theorem dX3_bestResult_15 : decode cX3_bestResult 15 = .ok (.ireturn, 1) := by decide +kernel
theorem dX3_bestStep_0 : decode cX3_bestStep 0 = .ok (.iload_n 1, 1) := by decide +kernel
theorem dX3_bestStep_1 : decode cX3_bestStep 1 = .ok (.ifCond .lt 20, 3) := by decide +kernel
theorem dX3_bestStep_4 : decode cX3_bestStep 4 = .ok (.iload_n 1, 1) := by decide +kernel
theorem dX3_bestStep_5 : decode cX3_bestStep 5 = .ok (.aload_n 0, 1) := by decide +kernel
theorem dX3_bestStep_6 : decode cX3_bestStep 6 = .ok (.getfield 51, 3) := by decide +kernel
theorem dX3_bestStep_9 : decode cX3_bestStep 9 = .ok (.if_icmp .ge 12, 3) := by decide +kernel
theorem dX3_bestStep_12 : decode cX3_bestStep 12 = .ok (.aload_n 0, 1) := by decide +kernel
theorem dX3_bestStep_13 : decode cX3_bestStep 13 = .ok (.getfield 38, 3) := by decide +kernel
theorem dX3_bestStep_16 : decode cX3_bestStep 16 = .ok (.iload_n 1, 1) := by decide +kernel
theorem dX3_bestStep_17 : decode cX3_bestStep 17 = .ok (.iaload, 1) := by decide +kernel
theorem dX3_bestStep_18 : decode cX3_bestStep 18 = .ok (.goto 4, 3) := by decide +kernel
theorem dX3_bestStep_21 : decode cX3_bestStep 21 = .ok (.iconst (-1), 1) := by decide +kernel
theorem dX3_bestStep_22 : decode cX3_bestStep 22 = .ok (.ireturn, 1) := by decide +kernel
theorem dX3_explore_0 : decode cX3_explore 0 = .ok (.aload_n 0, 1) := by decide +kernel
theorem dX3_explore_1 : decode cX3_explore 1 = .ok (.getfield 12, 3) := by decide +kernel
theorem dX3_explore_4 : decode cX3_explore 4 = .ok (.getfield 69, 3) := by decide +kernel
theorem dX3_explore_7 : decode cX3_explore 7 = .ok (.aload_n 0, 1) := by decide +kernel
theorem dX3_explore_8 : decode cX3_explore 8 = .ok (.getfield 12, 3) := by decide +kernel
theorem dX3_explore_11 : decode cX3_explore 11 = .ok (.getfield 72, 3) := by decide +kernel
theorem dX3_explore_14 : decode cX3_explore 14 = .ok (.aaload, 1) := by decide +kernel
theorem dX3_explore_15 : decode cX3_explore 15 = .ok (.astore_n 2, 1) := by decide +kernel
theorem dX3_explore_16 : decode cX3_explore 16 = .ok (.iconst 0, 1) := by decide +kernel
theorem dX3_explore_17 : decode cX3_explore 17 = .ok (.istore_n 3, 1) := by decide +kernel
theorem dX3_explore_18 : decode cX3_explore 18 = .ok (.iload_n 1, 1) := by decide +kernel
theorem dX3_explore_19 : decode cX3_explore 19 = .ok (.aload_n 0, 1) := by decide +kernel
theorem dX3_explore_20 : decode cX3_explore 20 = .ok (.getfield 47, 3) := by decide +kernel
theorem dX3_explore_23 : decode cX3_explore 23 = .ok (.if_icmp .ge 24, 3) := by decide +kernel
theorem dX3_explore_26 : decode cX3_explore 26 = .ok (.aload_n 2, 1) := by decide +kernel
theorem dX3_explore_27 : decode cX3_explore 27 = .ok (.getfield 75, 3) := by decide +kernel
theorem dX3_explore_30 : decode cX3_explore 30 = .ok (.ifCond .le 17, 3) := by decide +kernel
theorem dX3_explore_33 : decode cX3_explore 33 = .ok (.aload_n 0, 1) := by decide +kernel
theorem dX3_explore_34 : decode cX3_explore 34 = .ok (.getfield 12, 3) := by decide +kernel
theorem dX3_explore_37 : decode cX3_explore 37 = .ok (.aload_n 0, 1) := by decide +kernel
theorem dX3_explore_38 : decode cX3_explore 38 = .ok (.getfield 31, 3) := by decide +kernel
theorem dX3_explore_41 : decode cX3_explore 41 = .ok (.iload_n 1, 1) := by decide +kernel
theorem dX3_explore_42 : decode cX3_explore 42 = .ok (.aaload, 1) := by decide +kernel
theorem dX3_explore_43 : decode cX3_explore 43 = .ok (.invokevirtual 78, 3) := by decide +kernel
theorem dX3_explore_46 : decode cX3_explore 46 = .ok (.istore_n 3, 1) := by decide +kernel
theorem dX3_explore_47 : decode cX3_explore 47 = .ok (.iload_n 3, 1) := by decide +kernel
theorem dX3_explore_48 : decode cX3_explore 48 = .ok (.ifCond .ne 9, 3) := by decide +kernel
theorem dX3_explore_51 : decode cX3_explore 51 = .ok (.aload_n 0, 1) := by decide +kernel
theorem dX3_explore_52 : decode cX3_explore 52 = .ok (.iload_n 1, 1) := by decide +kernel
theorem dX3_explore_53 : decode cX3_explore 53 = .ok (.invokevirtual 82, 3) := by decide +kernel
theorem dX3_explore_56 : decode cX3_explore 56 = .ok (.return_, 1) := by decide +kernel
theorem dX3_explore_57 : decode cX3_explore 57 = .ok (.aload_n 0, 1) := by decide +kernel
theorem dX3_explore_58 : decode cX3_explore 58 = .ok (.getfield 20, 3) := by decide +kernel
theorem dX3_explore_61 : decode cX3_explore 61 = .ok (.iload_n 1, 1) := by decide +kernel
theorem dX3_explore_62 : decode cX3_explore 62 = .ok (.aaload, 1) := by decide +kernel
theorem dX3_explore_63 : decode cX3_explore 63 = .ok (.aload_n 2, 1) := by decide +kernel
theorem dX3_explore_64 : decode cX3_explore 64 = .ok (.invokevirtual 85, 3) := by decide +kernel
theorem dX3_explore_67 : decode cX3_explore 67 = .ok (.iconst 0, 1) := by decide +kernel
theorem dX3_explore_68 : decode cX3_explore 68 = .ok (.istore 4, 2) := by decide +kernel
theorem dX3_explore_70 : decode cX3_explore 70 = .ok (.iload 4, 2) := by decide +kernel
theorem dX3_explore_72 : decode cX3_explore 72 = .ok (.iload_n 3, 1) := by decide +kernel
theorem dX3_explore_73 : decode cX3_explore 73 = .ok (.if_icmp .ge 95, 3) := by decide +kernel
theorem dX3_explore_76 : decode cX3_explore 76 = .ok (.aload_n 0, 1) := by decide +kernel
theorem dX3_explore_77 : decode cX3_explore 77 = .ok (.getfield 31, 3) := by decide +kernel
theorem dX3_explore_80 : decode cX3_explore 80 = .ok (.iload_n 1, 1) := by decide +kernel
theorem dX3_explore_81 : decode cX3_explore 81 = .ok (.aaload, 1) := by decide +kernel
theorem dX3_explore_82 : decode cX3_explore 82 = .ok (.iload 4, 2) := by decide +kernel
theorem dX3_explore_84 : decode cX3_explore 84 = .ok (.iaload, 1) := by decide +kernel
theorem dX3_explore_85 : decode cX3_explore 85 = .ok (.istore 5, 2) := by decide +kernel
theorem dX3_explore_87 : decode cX3_explore 87 = .ok (.iload 5, 2) := by decide +kernel
theorem dX3_explore_89 : decode cX3_explore 89 = .ok (.bipush 100, 2) := by decide +kernel
theorem dX3_explore_91 : decode cX3_explore 91 = .ok (.idiv, 1) := by decide +kernel
theorem dX3_explore_92 : decode cX3_explore 92 = .ok (.istore 6, 2) := by decide +kernel
theorem dX3_explore_94 : decode cX3_explore 94 = .ok (.aload_n 0, 1) := by decide +kernel
theorem dX3_explore_95 : decode cX3_explore 95 = .ok (.getfield 34, 3) := by decide +kernel
theorem dX3_explore_98 : decode cX3_explore 98 = .ok (.iload_n 1, 1) := by decide +kernel
theorem dX3_explore_99 : decode cX3_explore 99 = .ok (.iload 5, 2) := by decide +kernel
theorem dX3_explore_101 : decode cX3_explore 101 = .ok (.iastore, 1) := by decide +kernel
theorem dX3_explore_102 : decode cX3_explore 102 = .ok (.aload_n 0, 1) := by decide +kernel
theorem dX3_explore_103 : decode cX3_explore 103 = .ok (.getfield 12, 3) := by decide +kernel
theorem dX3_explore_106 : decode cX3_explore 106 = .ok (.aload_n 2, 1) := by decide +kernel
theorem dX3_explore_107 : decode cX3_explore 107 = .ok (.iload 6, 2) := by decide +kernel
theorem dX3_explore_109 : decode cX3_explore 109 = .ok (.iload 5, 2) := by decide +kernel
theorem dX3_explore_111 : decode cX3_explore 111 = .ok (.bipush 100, 2) := by decide +kernel
theorem dX3_explore_113 : decode cX3_explore 113 = .ok (.irem, 1) := by decide +kernel
theorem dX3_explore_114 : decode cX3_explore 114 = .ok (.invokevirtual 88, 3) := by decide +kernel
theorem dX3_explore_117 : decode cX3_explore 117 = .ok (.aload_n 0, 1) := by decide +kernel
theorem dX3_explore_118 : decode cX3_explore 118 = .ok (.getfield 12, 3) := by decide +kernel
theorem dX3_explore_121 : decode cX3_explore 121 = .ok (.getfield 92, 3) := by decide +kernel
theorem dX3_explore_124 : decode cX3_explore 124 = .ok (.iload 6, 2) := by decide +kernel
theorem dX3_explore_126 : decode cX3_explore 126 = .ok (.dup2, 1) := by decide +kernel
theorem dX3_explore_127 : decode cX3_explore 127 = .ok (.iaload, 1) := by decide +kernel
theorem dX3_explore_128 : decode cX3_explore 128 = .ok (.iconst 1, 1) := by decide +kernel
theorem dX3_explore_129 : decode cX3_explore 129 = .ok (.iadd, 1) := by decide +kernel
theorem dX3_explore_130 : decode cX3_explore 130 = .ok (.iastore, 1) := by decide +kernel
theorem dX3_explore_131 : decode cX3_explore 131 = .ok (.aload_n 0, 1) := by decide +kernel
theorem dX3_explore_132 : decode cX3_explore 132 = .ok (.iload_n 1, 1) := by decide +kernel
theorem dX3_explore_133 : decode cX3_explore 133 = .ok (.iconst 1, 1) := by decide +kernel
theorem dX3_explore_134 : decode cX3_explore 134 = .ok (.iadd, 1) := by decide +kernel
theorem dX3_explore_135 : decode cX3_explore 135 = .ok (.invokevirtual 62, 3) := by decide +kernel
theorem dX3_explore_138 : decode cX3_explore 138 = .ok (.aload_n 0, 1) := by decide +kernel
theorem dX3_explore_139 : decode cX3_explore 139 = .ok (.getfield 12, 3) := by decide +kernel
theorem dX3_explore_142 : decode cX3_explore 142 = .ok (.getfield 92, 3) := by decide +kernel
theorem dX3_explore_145 : decode cX3_explore 145 = .ok (.iload 6, 2) := by decide +kernel
theorem dX3_explore_147 : decode cX3_explore 147 = .ok (.dup2, 1) := by decide +kernel
theorem dX3_explore_148 : decode cX3_explore 148 = .ok (.iaload, 1) := by decide +kernel
theorem dX3_explore_149 : decode cX3_explore 149 = .ok (.iconst 1, 1) := by decide +kernel
theorem dX3_explore_150 : decode cX3_explore 150 = .ok (.isub, 1) := by decide +kernel
theorem dX3_explore_151 : decode cX3_explore 151 = .ok (.iastore, 1) := by decide +kernel
theorem dX3_explore_152 : decode cX3_explore 152 = .ok (.aload_n 2, 1) := by decide +kernel
theorem dX3_explore_153 : decode cX3_explore 153 = .ok (.aload_n 0, 1) := by decide +kernel
theorem dX3_explore_154 : decode cX3_explore 154 = .ok (.getfield 20, 3) := by decide +kernel
theorem dX3_explore_157 : decode cX3_explore 157 = .ok (.iload_n 1, 1) := by decide +kernel
theorem dX3_explore_158 : decode cX3_explore 158 = .ok (.aaload, 1) := by decide +kernel
theorem dX3_explore_159 : decode cX3_explore 159 = .ok (.invokevirtual 85, 3) := by decide +kernel
theorem dX3_explore_162 : decode cX3_explore 162 = .ok (.iinc 4 1, 3) := by decide +kernel
theorem dX3_explore_165 : decode cX3_explore 165 = .ok (.goto (-95), 3) := by decide +kernel
theorem dX3_explore_168 : decode cX3_explore 168 = .ok (.return_, 1) := by decide +kernel
theorem dX3_judge_0 : decode cX3_judge 0 = .ok (.aload_n 0, 1) := by decide +kernel
theorem dX3_judge_1 : decode cX3_judge 1 = .ok (.getfield 25, 3) := by decide +kernel
theorem dX3_judge_4 : decode cX3_judge 4 = .ok (.aload_n 0, 1) := by decide +kernel
theorem dX3_judge_5 : decode cX3_judge 5 = .ok (.getfield 12, 3) := by decide +kernel
theorem dX3_judge_8 : decode cX3_judge 8 = .ok (.getfield 69, 3) := by decide +kernel
theorem dX3_judge_11 : decode cX3_judge 11 = .ok (.aload_n 0, 1) := by decide +kernel
theorem dX3_judge_12 : decode cX3_judge 12 = .ok (.getfield 12, 3) := by decide +kernel
theorem dX3_judge_15 : decode cX3_judge 15 = .ok (.getfield 72, 3) := by decide +kernel
theorem dX3_judge_18 : decode cX3_judge 18 = .ok (.aaload, 1) := by decide +kernel
theorem dX3_judge_19 : decode cX3_judge 19 = .ok (.invokevirtual 85, 3) := by decide +kernel
theorem dX3_judge_22 : decode cX3_judge 22 = .ok (.aload_n 0, 1) := by decide +kernel
theorem dX3_judge_23 : decode cX3_judge 23 = .ok (.getfield 25, 3) := by decide +kernel
theorem dX3_judge_26 : decode cX3_judge 26 = .ok (.aload_n 0, 1) := by decide +kernel
theorem dX3_judge_27 : decode cX3_judge 27 = .ok (.getfield 12, 3) := by decide +kernel
theorem dX3_judge_30 : decode cX3_judge 30 = .ok (.invokevirtual 95, 3) := by decide +kernel
theorem dX3_judge_33 : decode cX3_judge 33 = .ok (.invokevirtual 98, 3) := by decide +kernel
theorem dX3_judge_36 : decode cX3_judge 36 = .ok (.aload_n 0, 1) := by decide +kernel
theorem dX3_judge_37 : decode cX3_judge 37 = .ok (.getfield 25, 3) := by decide +kernel
theorem dX3_judge_40 : decode cX3_judge 40 = .ok (.invokevirtual 102, 3) := by decide +kernel
theorem dX3_judge_43 : decode cX3_judge 43 = .ok (.istore_n 2, 1) := by decide +kernel
theorem dX3_judge_44 : decode cX3_judge 44 = .ok (.iload_n 1, 1) := by decide +kernel
theorem dX3_judge_45 : decode cX3_judge 45 = .ok (.ifCond .le 42, 3) := by decide +kernel
theorem dX3_judge_48 : decode cX3_judge 48 = .ok (.aload_n 0, 1) := by decide +kernel
theorem dX3_judge_49 : decode cX3_judge 49 = .ok (.getfield 51, 3) := by decide +kernel
theorem dX3_judge_52 : decode cX3_judge 52 = .ok (.ifCond .eq 11, 3) := by decide +kernel
theorem dX3_judge_55 : decode cX3_judge 55 = .ok (.iload_n 2, 1) := by decide +kernel
theorem dX3_judge_56 : decode cX3_judge 56 = .ok (.aload_n 0, 1) := by decide +kernel
theorem dX3_judge_57 : decode cX3_judge 57 = .ok (.getfield 66, 3) := by decide +kernel
theorem dX3_judge_60 : decode cX3_judge 60 = .ok (.if_icmp .le 27, 3) := by decide +kernel
theorem dX3_judge_63 : decode cX3_judge 63 = .ok (.aload_n 0, 1) := by decide +kernel
theorem dX3_judge_64 : decode cX3_judge 64 = .ok (.iload_n 2, 1) := by decide +kernel
theorem dX3_judge_65 : decode cX3_judge 65 = .ok (.putfield 66, 3) := by decide +kernel
theorem dX3_judge_68 : decode cX3_judge 68 = .ok (.aload_n 0, 1) := by decide +kernel
theorem dX3_judge_69 : decode cX3_judge 69 = .ok (.iload_n 1, 1) := by decide +kernel
theorem dX3_judge_70 : decode cX3_judge 70 = .ok (.putfield 51, 3) := by decide +kernel
theorem dX3_judge_73 : decode cX3_judge 73 = .ok (.aload_n 0, 1) := by decide +kernel
theorem dX3_judge_74 : decode cX3_judge 74 = .ok (.getfield 34, 3) := by decide +kernel
theorem dX3_judge_77 : decode cX3_judge 77 = .ok (.iconst 0, 1) := by decide +kernel
theorem dX3_judge_78 : decode cX3_judge 78 = .ok (.aload_n 0, 1) := by decide +kernel
theorem dX3_judge_79 : decode cX3_judge 79 = .ok (.getfield 38, 3) := by decide +kernel
theorem dX3_judge_82 : decode cX3_judge 82 = .ok (.iconst 0, 1) := by decide +kernel
theorem dX3_judge_83 : decode cX3_judge 83 = .ok (.iload_n 1, 1) := by decide +kernel
theorem dX3_judge_84 : decode cX3_judge 84 = .ok (.invokestatic 106, 3) := by decide +kernel
theorem dX3_judge_87 : decode cX3_judge 87 = .ok (.return_, 1) := by decide +kernel
theorem dX4_init_0 : decode cX4_init 0 = .ok (.aload_n 0, 1) := by decide +kernel
theorem dX4_init_1 : decode cX4_init 1 = .ok (.invokespecial 3, 3) := by decide +kernel
theorem dX4_init_4 : decode cX4_init 4 = .ok (.aload_n 0, 1) := by decide +kernel
theorem dX4_init_5 : decode cX4_init 5 = .ok (.iconst 4, 1) := by decide +kernel
theorem dX4_init_6 : decode cX4_init 6 = .ok (.anewarray 9, 3) := by decide +kernel
theorem dX4_init_9 : decode cX4_init 9 = .ok (.putfield 11, 3) := by decide +kernel
theorem dX4_init_12 : decode cX4_init 12 = .ok (.iconst 0, 1) := by decide +kernel
theorem dX4_init_13 : decode cX4_init 13 = .ok (.istore_n 1, 1) := by decide +kernel
theorem dX4_init_14 : decode cX4_init 14 = .ok (.iload_n 1, 1) := by decide +kernel
theorem dX4_init_15 : decode cX4_init 15 = .ok (.iconst 4, 1) := by decide +kernel
theorem dX4_init_16 : decode cX4_init 16 = .ok (.if_icmp .ge 22, 3) := by decide +kernel
theorem dX4_init_19 : decode cX4_init 19 = .ok (.aload_n 0, 1) := by decide +kernel
theorem dX4_init_20 : decode cX4_init 20 = .ok (.getfield 11, 3) := by decide +kernel
theorem dX4_init_23 : decode cX4_init 23 = .ok (.iload_n 1, 1) := by decide +kernel
theorem dX4_init_24 : decode cX4_init 24 = .ok (.new 9, 3) := by decide +kernel
theorem dX4_init_27 : decode cX4_init 27 = .ok (.dup, 1) := by decide +kernel
theorem dX4_init_28 : decode cX4_init 28 = .ok (.invokespecial 17, 3) := by decide +kernel
theorem dX4_init_31 : decode cX4_init 31 = .ok (.aastore, 1) := by decide +kernel
theorem dX4_init_32 : decode cX4_init 32 = .ok (.iinc 1 1, 3) := by decide +kernel
theorem dX4_init_35 : decode cX4_init 35 = .ok (.goto (-21), 3) := by decide +kernel
theorem dX4_init_38 : decode cX4_init 38 = .ok (.return_, 1) := by decide +kernel
theorem dX4_push_0 : decode cX4_push 0 = .ok (.aload_n 0, 1) := by decide +kernel
theorem dX4_push_1 : decode cX4_push 1 = .ok (.getfield 11, 3) := by decide +kernel
theorem dX4_push_4 : decode cX4_push 4 = .ok (.aload_n 0, 1) := by decide +kernel
theorem dX4_push_5 : decode cX4_push 5 = .ok (.getfield 18, 3) := by decide +kernel
theorem dX4_push_8 : decode cX4_push 8 = .ok (.aaload, 1) := by decide +kernel
theorem dX4_push_9 : decode cX4_push 9 = .ok (.aload_n 1, 1) := by decide +kernel
theorem dX4_push_10 : decode cX4_push 10 = .ok (.invokevirtual 22, 3) := by decide +kernel
theorem dX4_push_13 : decode cX4_push 13 = .ok (.aload_n 0, 1) := by decide +kernel
theorem dX4_push_14 : decode cX4_push 14 = .ok (.aload_n 0, 1) := by decide +kernel
theorem dX4_push_15 : decode cX4_push 15 = .ok (.getfield 18, 3) := by decide +kernel
theorem dX4_push_18 : decode cX4_push 18 = .ok (.iconst 1, 1) := by decide +kernel
theorem dX4_push_19 : decode cX4_push 19 = .ok (.iadd, 1) := by decide +kernel
theorem dX4_push_20 : decode cX4_push 20 = .ok (.iconst 4, 1) := by decide +kernel
theorem dX4_push_21 : decode cX4_push 21 = .ok (.irem, 1) := by decide +kernel
theorem dX4_push_22 : decode cX4_push 22 = .ok (.putfield 18, 3) := by decide +kernel
theorem dX4_push_25 : decode cX4_push 25 = .ok (.aload_n 0, 1) := by decide +kernel
theorem dX4_push_26 : decode cX4_push 26 = .ok (.aload_n 0, 1) := by decide +kernel
theorem dX4_push_27 : decode cX4_push 27 = .ok (.getfield 26, 3) := by decide +kernel
theorem dX4_push_30 : decode cX4_push 30 = .ok (.iconst 1, 1) := by decide +kernel
theorem dX4_push_31 : decode cX4_push 31 = .ok (.iadd, 1) := by decide +kernel
theorem dX4_push_32 : decode cX4_push 32 = .ok (.iconst 4, 1) := by decide +kernel
theorem dX4_push_33 : decode cX4_push 33 = .ok (.invokestatic 29, 3) := by decide +kernel
theorem dX4_push_36 : decode cX4_push 36 = .ok (.putfield 26, 3) := by decide +kernel
theorem dX4_push_39 : decode cX4_push 39 = .ok (.return_, 1) := by decide +kernel
theorem dX4_pop_0 : decode cX4_pop 0 = .ok (.aload_n 0, 1) := by decide +kernel
theorem dX4_pop_1 : decode cX4_pop 1 = .ok (.aload_n 0, 1) := by decide +kernel
theorem dX4_pop_2 : decode cX4_pop 2 = .ok (.getfield 18, 3) := by decide +kernel
theorem dX4_pop_5 : decode cX4_pop 5 = .ok (.iconst 4, 1) := by decide +kernel
theorem dX4_pop_6 : decode cX4_pop 6 = .ok (.iadd, 1) := by decide +kernel
theorem dX4_pop_7 : decode cX4_pop 7 = .ok (.iconst 1, 1) := by decide +kernel
theorem dX4_pop_8 : decode cX4_pop 8 = .ok (.isub, 1) := by decide +kernel
theorem dX4_pop_9 : decode cX4_pop 9 = .ok (.iconst 4, 1) := by decide +kernel
theorem dX4_pop_10 : decode cX4_pop 10 = .ok (.irem, 1) := by decide +kernel
theorem dX4_pop_11 : decode cX4_pop 11 = .ok (.putfield 18, 3) := by decide +kernel
theorem dX4_pop_14 : decode cX4_pop 14 = .ok (.aload_n 0, 1) := by decide +kernel
theorem dX4_pop_15 : decode cX4_pop 15 = .ok (.dup, 1) := by decide +kernel
theorem dX4_pop_16 : decode cX4_pop 16 = .ok (.getfield 26, 3) := by decide +kernel
theorem dX4_pop_19 : decode cX4_pop 19 = .ok (.iconst 1, 1) := by decide +kernel
theorem dX4_pop_20 : decode cX4_pop 20 = .ok (.isub, 1) := by decide +kernel
theorem dX4_pop_21 : decode cX4_pop 21 = .ok (.putfield 26, 3) := by decide +kernel
theorem dX4_pop_24 : decode cX4_pop 24 = .ok (.aload_n 1, 1) := by decide +kernel
theorem dX4_pop_25 : decode cX4_pop 25 = .ok (.aload_n 0, 1) := by decide +kernel
theorem dX4_pop_26 : decode cX4_pop 26 = .ok (.getfield 11, 3) := by decide +kernel
theorem dX4_pop_29 : decode cX4_pop 29 = .ok (.aload_n 0, 1) := by decide +kernel
theorem dX4_pop_30 : decode cX4_pop 30 = .ok (.getfield 18, 3) := by decide +kernel
theorem dX4_pop_33 : decode cX4_pop 33 = .ok (.aaload, 1) := by decide +kernel
theorem dX4_pop_34 : decode cX4_pop 34 = .ok (.invokevirtual 22, 3) := by decide +kernel
theorem dX4_pop_37 : decode cX4_pop 37 = .ok (.return_, 1) := by decide +kernel
theorem dX5_init_0 : decode cX5_init 0 = .ok (.aload_n 0, 1) := by decide +kernel
theorem dX5_init_1 : decode cX5_init 1 = .ok (.invokespecial 1, 3) := by decide +kernel
theorem dX5_init_4 : decode cX5_init 4 = .ok (.aload_n 0, 1) := by decide +kernel
theorem dX5_init_5 : decode cX5_init 5 = .ok (.new 7, 3) := by decide +kernel
theorem dX5_init_8 : decode cX5_init 8 = .ok (.dup, 1) := by decide +kernel
theorem dX5_init_9 : decode cX5_init 9 = .ok (.invokespecial 9, 3) := by decide +kernel
theorem dX5_init_12 : decode cX5_init 12 = .ok (.putfield 10, 3) := by decide +kernel
theorem dX5_init_15 : decode cX5_init 15 = .ok (.aload_n 0, 1) := by decide +kernel
theorem dX5_init_16 : decode cX5_init 16 = .ok (.new 16, 3) := by decide +kernel
theorem dX5_init_19 : decode cX5_init 19 = .ok (.dup, 1) := by decide +kernel
theorem dX5_init_20 : decode cX5_init 20 = .ok (.invokespecial 18, 3) := by decide +kernel
theorem dX5_init_23 : decode cX5_init 23 = .ok (.putfield 19, 3) := by decide +kernel
theorem dX5_init_26 : decode cX5_init 26 = .ok (.aload_n 0, 1) := by decide +kernel
theorem dX5_init_27 : decode cX5_init 27 = .ok (.new 23, 3) := by decide +kernel
theorem dX5_init_30 : decode cX5_init 30 = .ok (.dup, 1) := by decide +kernel
theorem dX5_init_31 : decode cX5_init 31 = .ok (.invokespecial 25, 3) := by decide +kernel
theorem dX5_init_34 : decode cX5_init 34 = .ok (.putfield 26, 3) := by decide +kernel
theorem dX5_init_37 : decode cX5_init 37 = .ok (.aload_n 0, 1) := by decide +kernel
theorem dX5_init_38 : decode cX5_init 38 = .ok (.bipush 40, 2) := by decide +kernel
theorem dX5_init_40 : decode cX5_init 40 = .ok (.newarray .int, 2) := by decide +kernel
theorem dX5_init_42 : decode cX5_init 42 = .ok (.putfield 30, 3) := by decide +kernel
theorem dX5_init_45 : decode cX5_init 45 = .ok (.aload_n 0, 1) := by decide +kernel
theorem dX5_init_46 : decode cX5_init 46 = .ok (.getfield 10, 3) := by decide +kernel
theorem dX5_init_49 : decode cX5_init 49 = .ok (.iconst 2, 1) := by decide +kernel
theorem dX5_init_50 : decode cX5_init 50 = .ok (.bipush 6, 2) := by decide +kernel
theorem dX5_init_52 : decode cX5_init 52 = .ok (.invokevirtual 34, 3) := by decide +kernel
theorem dX5_init_55 : decode cX5_init 55 = .ok (.return_, 1) := by decide +kernel
theorem dX5_newGame_0 : decode cX5_newGame 0 = .ok (.iload_n 1, 1) := by decide +kernel
theorem dX5_newGame_1 : decode cX5_newGame 1 = .ok (.iconst 2, 1) := by decide +kernel
theorem dX5_newGame_2 : decode cX5_newGame 2 = .ok (.if_icmp .lt 12, 3) := by decide +kernel
theorem dX5_newGame_5 : decode cX5_newGame 5 = .ok (.iload_n 1, 1) := by decide +kernel
theorem dX5_newGame_6 : decode cX5_newGame 6 = .ok (.iconst 4, 1) := by decide +kernel
theorem dX5_newGame_7 : decode cX5_newGame 7 = .ok (.if_icmp .gt 7, 3) := by decide +kernel
theorem dX5_newGame_10 : decode cX5_newGame 10 = .ok (.iconst 1, 1) := by decide +kernel
theorem dX5_newGame_11 : decode cX5_newGame 11 = .ok (.goto 4, 3) := by decide +kernel
theorem dX5_newGame_14 : decode cX5_newGame 14 = .ok (.iconst 0, 1) := by decide +kernel
theorem dX5_newGame_15 : decode cX5_newGame 15 = .ok (.invokestatic 38, 3) := by decide +kernel
theorem dX5_newGame_18 : decode cX5_newGame 18 = .ok (.iload_n 2, 1) := by decide +kernel
theorem dX5_newGame_19 : decode cX5_newGame 19 = .ok (.iconst 1, 1) := by decide +kernel
theorem dX5_newGame_20 : decode cX5_newGame 20 = .ok (.if_icmp .lt 13, 3) := by decide +kernel
theorem dX5_newGame_23 : decode cX5_newGame 23 = .ok (.iload_n 2, 1) := by decide +kernel
theorem dX5_newGame_24 : decode cX5_newGame 24 = .ok (.bipush 12, 2) := by decide +kernel
theorem dX5_newGame_26 : decode cX5_newGame 26 = .ok (.if_icmp .gt 7, 3) := by decide +kernel
theorem dX5_newGame_29 : decode cX5_newGame 29 = .ok (.iconst 1, 1) := by decide +kernel
theorem dX5_newGame_30 : decode cX5_newGame 30 = .ok (.goto 4, 3) := by decide +kernel
theorem dX5_newGame_33 : decode cX5_newGame 33 = .ok (.iconst 0, 1) := by decide +kernel
theorem dX5_newGame_34 : decode cX5_newGame 34 = .ok (.invokestatic 38, 3) := by decide +kernel
theorem dX5_newGame_37 : decode cX5_newGame 37 = .ok (.aload_n 0, 1) := by decide +kernel
theorem dX5_newGame_38 : decode cX5_newGame 38 = .ok (.getfield 19, 3) := by decide +kernel
theorem dX5_newGame_41 : decode cX5_newGame 41 = .ok (.aload_n 0, 1) := by decide +kernel
theorem dX5_newGame_42 : decode cX5_newGame 42 = .ok (.getfield 10, 3) := by decide +kernel
theorem dX5_newGame_45 : decode cX5_newGame 45 = .ok (.invokevirtual 42, 3) := by decide +kernel
theorem dX5_newGame_48 : decode cX5_newGame 48 = .ok (.aload_n 0, 1) := by decide +kernel
theorem dX5_newGame_49 : decode cX5_newGame 49 = .ok (.getfield 10, 3) := by decide +kernel
theorem dX5_newGame_52 : decode cX5_newGame 52 = .ok (.getfield 46, 3) := by decide +kernel
theorem dX5_newGame_55 : decode cX5_newGame 55 = .ok (.iconst 1, 1) := by decide +kernel
theorem dX5_newGame_56 : decode cX5_newGame 56 = .ok (.isub, 1) := by decide +kernel
theorem dX5_newGame_57 : decode cX5_newGame 57 = .ok (.istore_n 3, 1) := by decide +kernel
theorem dX5_newGame_58 : decode cX5_newGame 58 = .ok (.aload_n 0, 1) := by decide +kernel
theorem dX5_newGame_59 : decode cX5_newGame 59 = .ok (.getfield 10, 3) := by decide +kernel
theorem dX5_newGame_62 : decode cX5_newGame 62 = .ok (.iload_n 1, 1) := by decide +kernel
theorem dX5_newGame_63 : decode cX5_newGame 63 = .ok (.iload_n 2, 1) := by decide +kernel
theorem dX5_newGame_64 : decode cX5_newGame 64 = .ok (.invokevirtual 34, 3) := by decide +kernel
theorem dX5_newGame_67 : decode cX5_newGame 67 = .ok (.iload_n 3, 1) := by decide +kernel
theorem dX5_newGame_68 : decode cX5_newGame 68 = .ok (.ireturn, 1) := by decide +kernel
theorem dX5_reason_0 : decode cX5_reason 0 = .ok (.iload_n 1, 1) := by decide +kernel
theorem dX5_reason_1 : decode cX5_reason 1 = .ok (.ifCond .lt 13, 3) := by decide +kernel
theorem dX5_reason_4 : decode cX5_reason 4 = .ok (.iload_n 1, 1) := by decide +kernel
theorem dX5_reason_5 : decode cX5_reason 5 = .ok (.bipush 12, 2) := by decide +kernel
theorem dX5_reason_7 : decode cX5_reason 7 = .ok (.if_icmp .ge 7, 3) := by decide +kernel
theorem dX5_reason_10 : decode cX5_reason 10 = .ok (.iconst 1, 1) := by decide +kernel
theorem dX5_reason_11 : decode cX5_reason 11 = .ok (.goto 4, 3) := by decide +kernel
theorem dX5_reason_14 : decode cX5_reason 14 = .ok (.iconst 0, 1) := by decide +kernel
theorem dX5_reason_15 : decode cX5_reason 15 = .ok (.invokestatic 50, 3) := by decide +kernel
theorem dX5_reason_18 : decode cX5_reason 18 = .ok (.aload_n 0, 1) := by decide +kernel
theorem dX5_reason_19 : decode cX5_reason 19 = .ok (.getfield 10, 3) := by decide +kernel
theorem dX5_reason_22 : decode cX5_reason 22 = .ok (.iload_n 1, 1) := by decide +kernel
theorem dX5_reason_23 : decode cX5_reason 23 = .ok (.iload_n 2, 1) := by decide +kernel
theorem dX5_reason_24 : decode cX5_reason 24 = .ok (.invokevirtual 53, 3) := by decide +kernel
theorem dX5_reason_27 : decode cX5_reason 27 = .ok (.ireturn, 1) := by decide +kernel
theorem dX5_place_0 : decode cX5_place 0 = .ok (.iload_n 1, 1) := by decide +kernel
theorem dX5_place_1 : decode cX5_place 1 = .ok (.ifCond .lt 13, 3) := by decide +kernel
theorem dX5_place_4 : decode cX5_place 4 = .ok (.iload_n 1, 1) := by decide +kernel
theorem dX5_place_5 : decode cX5_place 5 = .ok (.bipush 12, 2) := by decide +kernel
theorem dX5_place_7 : decode cX5_place 7 = .ok (.if_icmp .ge 7, 3) := by decide +kernel
theorem dX5_place_10 : decode cX5_place 10 = .ok (.iconst 1, 1) := by decide +kernel
theorem dX5_place_11 : decode cX5_place 11 = .ok (.goto 4, 3) := by decide +kernel
theorem dX5_place_14 : decode cX5_place 14 = .ok (.iconst 0, 1) := by decide +kernel
theorem dX5_place_15 : decode cX5_place 15 = .ok (.invokestatic 50, 3) := by decide +kernel
theorem dX5_place_18 : decode cX5_place 18 = .ok (.aload_n 0, 1) := by decide +kernel
theorem dX5_place_19 : decode cX5_place 19 = .ok (.getfield 10, 3) := by decide +kernel
theorem dX5_place_22 : decode cX5_place 22 = .ok (.iload_n 1, 1) := by decide +kernel
theorem dX5_place_23 : decode cX5_place 23 = .ok (.iload_n 2, 1) := by decide +kernel
theorem dX5_place_24 : decode cX5_place 24 = .ok (.invokevirtual 53, 3) := by decide +kernel
theorem dX5_place_27 : decode cX5_place 27 = .ok (.ifCond .ne 7, 3) := by decide +kernel
theorem dX5_place_30 : decode cX5_place 30 = .ok (.iconst 1, 1) := by decide +kernel
theorem dX5_place_31 : decode cX5_place 31 = .ok (.goto 4, 3) := by decide +kernel
theorem dX5_place_34 : decode cX5_place 34 = .ok (.iconst 0, 1) := by decide +kernel
theorem dX5_place_35 : decode cX5_place 35 = .ok (.invokestatic 57, 3) := by decide +kernel
theorem dX5_place_38 : decode cX5_place 38 = .ok (.aload_n 0, 1) := by decide +kernel
theorem dX5_place_39 : decode cX5_place 39 = .ok (.getfield 19, 3) := by decide +kernel
theorem dX5_place_42 : decode cX5_place 42 = .ok (.aload_n 0, 1) := by decide +kernel
theorem dX5_place_43 : decode cX5_place 43 = .ok (.getfield 10, 3) := by decide +kernel
theorem dX5_place_46 : decode cX5_place 46 = .ok (.invokevirtual 42, 3) := by decide +kernel
theorem dX5_place_49 : decode cX5_place 49 = .ok (.aload_n 0, 1) := by decide +kernel
theorem dX5_place_50 : decode cX5_place 50 = .ok (.getfield 10, 3) := by decide +kernel
theorem dX5_place_53 : decode cX5_place 53 = .ok (.iload_n 1, 1) := by decide +kernel
theorem dX5_place_54 : decode cX5_place 54 = .ok (.iload_n 2, 1) := by decide +kernel
theorem dX5_place_55 : decode cX5_place 55 = .ok (.invokevirtual 60, 3) := by decide +kernel
theorem dX5_place_58 : decode cX5_place 58 = .ok (.aload_n 0, 1) := by decide +kernel
theorem dX5_place_59 : decode cX5_place 59 = .ok (.getfield 10, 3) := by decide +kernel
theorem dX5_place_62 : decode cX5_place 62 = .ok (.getfield 63, 3) := by decide +kernel
theorem dX5_place_65 : decode cX5_place 65 = .ok (.ireturn, 1) := by decide +kernel
theorem dX5_skip_0 : decode cX5_skip 0 = .ok (.aload_n 0, 1) := by decide +kernel
theorem dX5_skip_1 : decode cX5_skip 1 = .ok (.getfield 10, 3) := by decide +kernel
theorem dX5_skip_4 : decode cX5_skip 4 = .ok (.invokevirtual 66, 3) := by decide +kernel
theorem dX5_skip_7 : decode cX5_skip 7 = .ok (.ifCond .ne 21, 3) := by decide +kernel
theorem dX5_skip_10 : decode cX5_skip 10 = .ok (.aload_n 0, 1) := by decide +kernel
theorem dX5_skip_11 : decode cX5_skip 11 = .ok (.getfield 10, 3) := by decide +kernel
theorem dX5_skip_14 : decode cX5_skip 14 = .ok (.aload_n 0, 1) := by decide +kernel
theorem dX5_skip_15 : decode cX5_skip 15 = .ok (.getfield 30, 3) := by decide +kernel
theorem dX5_skip_18 : decode cX5_skip 18 = .ok (.invokevirtual 70, 3) := by decide +kernel
theorem dX5_skip_21 : decode cX5_skip 21 = .ok (.ifCond .ne 7, 3) := by decide +kernel
theorem dX5_skip_24 : decode cX5_skip 24 = .ok (.iconst 1, 1) := by decide +kernel
theorem dX5_skip_25 : decode cX5_skip 25 = .ok (.goto 4, 3) := by decide +kernel
theorem dX5_skip_28 : decode cX5_skip 28 = .ok (.iconst 0, 1) := by decide +kernel
theorem dX5_skip_29 : decode cX5_skip 29 = .ok (.invokestatic 57, 3) := by decide +kernel
theorem dX5_skip_32 : decode cX5_skip 32 = .ok (.aload_n 0, 1) := by decide +kernel
theorem dX5_skip_33 : decode cX5_skip 33 = .ok (.getfield 19, 3) := by decide +kernel
theorem dX5_skip_36 : decode cX5_skip 36 = .ok (.aload_n 0, 1) := by decide +kernel
theorem dX5_skip_37 : decode cX5_skip 37 = .ok (.getfield 10, 3) := by decide +kernel
theorem dX5_skip_40 : decode cX5_skip 40 = .ok (.invokevirtual 42, 3) := by decide +kernel
theorem dX5_skip_43 : decode cX5_skip 43 = .ok (.aload_n 0, 1) := by decide +kernel
theorem dX5_skip_44 : decode cX5_skip 44 = .ok (.getfield 10, 3) := by decide +kernel
theorem dX5_skip_47 : decode cX5_skip 47 = .ok (.invokevirtual 74, 3) := by decide +kernel
theorem dX5_skip_50 : decode cX5_skip 50 = .ok (.aload_n 0, 1) := by decide +kernel
theorem dX5_skip_51 : decode cX5_skip 51 = .ok (.getfield 10, 3) := by decide +kernel
theorem dX5_skip_54 : decode cX5_skip 54 = .ok (.getfield 63, 3) := by decide +kernel
theorem dX5_skip_57 : decode cX5_skip 57 = .ok (.ireturn, 1) := by decide +kernel
theorem dX5_play_0 : decode cX5_play 0 = .ok (.iload_n 1, 1) := by decide +kernel
theorem dX5_play_1 : decode cX5_play 1 = .ok (.iconst 1, 1) := by decide +kernel
theorem dX5_play_2 : decode cX5_play 2 = .ok (.if_icmp .lt 12, 3) := by decide +kernel
theorem dX5_play_5 : decode cX5_play 5 = .ok (.iload_n 1, 1) := by decide +kernel
theorem dX5_play_6 : decode cX5_play 6 = .ok (.iconst 2, 1) := by decide +kernel
theorem dX5_play_7 : decode cX5_play 7 = .ok (.if_icmp .gt 7, 3) := by decide +kernel
theorem dX5_play_10 : decode cX5_play 10 = .ok (.iconst 1, 1) := by decide +kernel
theorem dX5_play_11 : decode cX5_play 11 = .ok (.goto 4, 3) := by decide +kernel
theorem dX5_play_14 : decode cX5_play 14 = .ok (.iconst 0, 1) := by decide +kernel
theorem dX5_play_15 : decode cX5_play 15 = .ok (.invokestatic 38, 3) := by decide +kernel
theorem dX5_play_18 : decode cX5_play 18 = .ok (.iload_n 2, 1) := by decide +kernel
theorem dX5_play_19 : decode cX5_play 19 = .ok (.iconst 1, 1) := by decide +kernel
theorem dX5_play_20 : decode cX5_play 20 = .ok (.if_icmp .lt 13, 3) := by decide +kernel
theorem dX5_play_23 : decode cX5_play 23 = .ok (.iload_n 2, 1) := by decide +kernel
theorem dX5_play_24 : decode cX5_play 24 = .ok (.bipush 10, 2) := by decide +kernel
theorem dX5_play_26 : decode cX5_play 26 = .ok (.if_icmp .gt 7, 3) := by decide +kernel
theorem dX5_play_29 : decode cX5_play 29 = .ok (.iconst 1, 1) := by decide +kernel
theorem dX5_play_30 : decode cX5_play 30 = .ok (.goto 4, 3) := by decide +kernel
theorem dX5_play_33 : decode cX5_play 33 = .ok (.iconst 0, 1) := by decide +kernel
theorem dX5_play_34 : decode cX5_play 34 = .ok (.invokestatic 38, 3) := by decide +kernel
theorem dX5_play_37 : decode cX5_play 37 = .ok (.aload_n 0, 1) := by decide +kernel
theorem dX5_play_38 : decode cX5_play 38 = .ok (.getfield 19, 3) := by decide +kernel
theorem dX5_play_41 : decode cX5_play 41 = .ok (.aload_n 0, 1) := by decide +kernel
theorem dX5_play_42 : decode cX5_play 42 = .ok (.getfield 10, 3) := by decide +kernel
theorem dX5_play_45 : decode cX5_play 45 = .ok (.invokevirtual 42, 3) := by decide +kernel
theorem dX5_play_48 : decode cX5_play 48 = .ok (.iconst 0, 1) := by decide +kernel
theorem dX5_play_49 : decode cX5_play 49 = .ok (.istore_n 3, 1) := by decide +kernel
theorem dX5_play_50 : decode cX5_play 50 = .ok (.iload_n 3, 1) := by decide +kernel
theorem dX5_play_51 : decode cX5_play 51 = .ok (.iload_n 2, 1) := by decide +kernel
theorem dX5_play_52 : decode cX5_play 52 = .ok (.if_icmp .ge 74, 3) := by decide +kernel
theorem dX5_play_55 : decode cX5_play 55 = .ok (.aload_n 0, 1) := by decide +kernel
theorem dX5_play_56 : decode cX5_play 56 = .ok (.getfield 10, 3) := by decide +kernel
theorem dX5_play_59 : decode cX5_play 59 = .ok (.invokevirtual 66, 3) := by decide +kernel
theorem dX5_play_62 : decode cX5_play 62 = .ok (.ifCond .ne 64, 3) := by decide +kernel
theorem dX5_play_65 : decode cX5_play 65 = .ok (.aload_n 0, 1) := by decide +kernel
theorem dX5_play_66 : decode cX5_play 66 = .ok (.getfield 26, 3) := by decide +kernel
theorem dX5_play_69 : decode cX5_play 69 = .ok (.aload_n 0, 1) := by decide +kernel
theorem dX5_play_70 : decode cX5_play 70 = .ok (.getfield 10, 3) := by decide +kernel
theorem dX5_play_73 : decode cX5_play 73 = .ok (.iload_n 1, 1) := by decide +kernel
theorem dX5_play_74 : decode cX5_play 74 = .ok (.invokevirtual 77, 3) := by decide +kernel
theorem dX5_play_77 : decode cX5_play 77 = .ok (.aload_n 0, 1) := by decide +kernel
theorem dX5_play_78 : decode cX5_play 78 = .ok (.getfield 26, 3) := by decide +kernel
theorem dX5_play_81 : decode cX5_play 81 = .ok (.iconst 0, 1) := by decide +kernel
theorem dX5_play_82 : decode cX5_play 82 = .ok (.invokevirtual 81, 3) := by decide +kernel
theorem dX5_play_85 : decode cX5_play 85 = .ok (.istore 4, 2) := by decide +kernel
theorem dX5_play_87 : decode cX5_play 87 = .ok (.iload 4, 2) := by decide +kernel
theorem dX5_play_89 : decode cX5_play 89 = .ok (.iconst (-1), 1) := by decide +kernel
theorem dX5_play_90 : decode cX5_play 90 = .ok (.if_icmp .ne 13, 3) := by decide +kernel
theorem dX5_play_93 : decode cX5_play 93 = .ok (.aload_n 0, 1) := by decide +kernel
theorem dX5_play_94 : decode cX5_play 94 = .ok (.getfield 10, 3) := by decide +kernel
theorem dX5_play_97 : decode cX5_play 97 = .ok (.invokevirtual 74, 3) := by decide +kernel
theorem dX5_play_100 : decode cX5_play 100 = .ok (.goto 20, 3) := by decide +kernel
theorem dX5_play_103 : decode cX5_play 103 = .ok (.aload_n 0, 1) := by decide +kernel
theorem dX5_play_104 : decode cX5_play 104 = .ok (.getfield 10, 3) := by decide +kernel
theorem dX5_play_107 : decode cX5_play 107 = .ok (.iload 4, 2) := by decide +kernel
theorem dX5_play_109 : decode cX5_play 109 = .ok (.bipush 100, 2) := by decide +kernel
theorem dX5_play_111 : decode cX5_play 111 = .ok (.idiv, 1) := by decide +kernel
theorem dX5_play_112 : decode cX5_play 112 = .ok (.iload 4, 2) := by decide +kernel
theorem dX5_play_114 : decode cX5_play 114 = .ok (.bipush 100, 2) := by decide +kernel
theorem dX5_play_116 : decode cX5_play 116 = .ok (.irem, 1) := by decide +kernel
theorem dX5_play_117 : decode cX5_play 117 = .ok (.invokevirtual 60, 3) := by decide +kernel
theorem dX5_play_120 : decode cX5_play 120 = .ok (.iinc 3 1, 3) := by decide +kernel
theorem dX5_play_123 : decode cX5_play 123 = .ok (.goto (-73), 3) := by decide +kernel
theorem dX5_play_126 : decode cX5_play 126 = .ok (.iload_n 3, 1) := by decide +kernel
theorem dX5_play_127 : decode cX5_play 127 = .ok (.ireturn, 1) := by decide +kernel
theorem dX5_players_0 : decode cX5_players 0 = .ok (.aload_n 0, 1) := by decide +kernel
theorem dX5_players_1 : decode cX5_players 1 = .ok (.getfield 10, 3) := by decide +kernel
theorem dX5_players_4 : decode cX5_players 4 = .ok (.getfield 85, 3) := by decide +kernel
theorem dX5_players_7 : decode cX5_players 7 = .ok (.ireturn, 1) := by decide +kernel
theorem dX5_round_0 : decode cX5_round 0 = .ok (.aload_n 0, 1) := by decide +kernel
theorem dX5_round_1 : decode cX5_round 1 = .ok (.getfield 10, 3) := by decide +kernel
theorem dX5_round_4 : decode cX5_round 4 = .ok (.getfield 46, 3) := by decide +kernel
theorem dX5_round_7 : decode cX5_round 7 = .ok (.ireturn, 1) := by decide +kernel
theorem dX5_inTurn_0 : decode cX5_inTurn 0 = .ok (.aload_n 0, 1) := by decide +kernel
theorem dX5_inTurn_1 : decode cX5_inTurn 1 = .ok (.getfield 10, 3) := by decide +kernel
theorem dX5_inTurn_4 : decode cX5_inTurn 4 = .ok (.getfield 63, 3) := by decide +kernel
theorem dX5_inTurn_7 : decode cX5_inTurn 7 = .ok (.ireturn, 1) := by decide +kernel
theorem dX5_startPlayer_0 : decode cX5_startPlayer 0 = .ok (.aload_n 0, 1) := by decide +kernel
theorem dX5_startPlayer_1 : decode cX5_startPlayer 1 = .ok (.getfield 10, 3) := by decide +kernel
theorem dX5_startPlayer_4 : decode cX5_startPlayer 4 = .ok (.getfield 88, 3) := by decide +kernel
theorem dX5_startPlayer_7 : decode cX5_startPlayer 7 = .ok (.ireturn, 1) := by decide +kernel
theorem dX5_goods_0 : decode cX5_goods 0 = .ok (.aload_n 0, 1) := by decide +kernel
theorem dX5_goods_1 : decode cX5_goods 1 = .ok (.iload_n 1, 1) := by decide +kernel
theorem dX5_goods_2 : decode cX5_goods 2 = .ok (.invokevirtual 91, 3) := by decide +kernel
theorem dX5_goods_5 : decode cX5_goods 5 = .ok (.iload_n 2, 1) := by decide +kernel
theorem dX5_goods_6 : decode cX5_goods 6 = .ok (.ifCond .lt 12, 3) := by decide +kernel
theorem dX5_goods_9 : decode cX5_goods 9 = .ok (.iload_n 2, 1) := by decide +kernel
theorem dX5_goods_10 : decode cX5_goods 10 = .ok (.iconst 5, 1) := by decide +kernel
theorem dX5_goods_11 : decode cX5_goods 11 = .ok (.if_icmp .ge 7, 3) := by decide +kernel
theorem dX5_goods_14 : decode cX5_goods 14 = .ok (.iconst 1, 1) := by decide +kernel
theorem dX5_goods_15 : decode cX5_goods 15 = .ok (.goto 4, 3) := by decide +kernel
theorem dX5_goods_18 : decode cX5_goods 18 = .ok (.iconst 0, 1) := by decide +kernel
theorem dX5_goods_19 : decode cX5_goods 19 = .ok (.invokestatic 38, 3) := by decide +kernel
theorem dX5_goods_22 : decode cX5_goods 22 = .ok (.aload_n 0, 1) := by decide +kernel
theorem dX5_goods_23 : decode cX5_goods 23 = .ok (.getfield 10, 3) := by decide +kernel
theorem dX5_goods_26 : decode cX5_goods 26 = .ok (.getfield 95, 3) := by decide +kernel
theorem dX5_goods_29 : decode cX5_goods 29 = .ok (.iload_n 1, 1) := by decide +kernel
theorem dX5_goods_30 : decode cX5_goods 30 = .ok (.aaload, 1) := by decide +kernel
theorem dX5_goods_31 : decode cX5_goods 31 = .ok (.getfield 99, 3) := by decide +kernel
theorem dX5_goods_34 : decode cX5_goods 34 = .ok (.iload_n 2, 1) := by decide +kernel
theorem dX5_goods_35 : decode cX5_goods 35 = .ok (.iaload, 1) := by decide +kernel
theorem dX5_goods_36 : decode cX5_goods 36 = .ok (.ireturn, 1) := by decide +kernel
theorem dX5_player_0 : decode cX5_player 0 = .ok (.aload_n 0, 1) := by decide +kernel
theorem dX5_player_1 : decode cX5_player 1 = .ok (.iload_n 1, 1) := by decide +kernel
theorem dX5_player_2 : decode cX5_player 2 = .ok (.invokevirtual 91, 3) := by decide +kernel
theorem dX5_player_5 : decode cX5_player 5 = .ok (.iload_n 2, 1) := by decide +kernel
theorem dX5_player_6 : decode cX5_player 6 = .ok (.ifCond .lt 13, 3) := by decide +kernel
theorem dX5_player_9 : decode cX5_player 9 = .ok (.iload_n 2, 1) := by decide +kernel
theorem dX5_player_10 : decode cX5_player 10 = .ok (.bipush 6, 2) := by decide +kernel
theorem dX5_player_12 : decode cX5_player 12 = .ok (.if_icmp .ge 7, 3) := by decide +kernel
theorem dX5_player_15 : decode cX5_player 15 = .ok (.iconst 1, 1) := by decide +kernel
theorem dX5_player_16 : decode cX5_player 16 = .ok (.goto 4, 3) := by decide +kernel
theorem dX5_player_19 : decode cX5_player 19 = .ok (.iconst 0, 1) := by decide +kernel
theorem dX5_player_20 : decode cX5_player 20 = .ok (.invokestatic 38, 3) := by decide +kernel
theorem dX5_player_23 : decode cX5_player 23 = .ok (.aload_n 0, 1) := by decide +kernel
theorem dX5_player_24 : decode cX5_player 24 = .ok (.getfield 10, 3) := by decide +kernel
theorem dX5_player_27 : decode cX5_player 27 = .ok (.getfield 95, 3) := by decide +kernel
theorem dX5_player_30 : decode cX5_player 30 = .ok (.iload_n 1, 1) := by decide +kernel
theorem dX5_player_31 : decode cX5_player 31 = .ok (.aaload, 1) := by decide +kernel
theorem dX5_player_32 : decode cX5_player 32 = .ok (.iload_n 2, 1) := by decide +kernel
theorem dX5_player_33 : decode cX5_player 33 = .ok (.invokevirtual 104, 3) := by decide +kernel
theorem dX5_player_36 : decode cX5_player 36 = .ok (.ireturn, 1) := by decide +kernel
theorem dX5_owner_0 : decode cX5_owner 0 = .ok (.iload_n 1, 1) := by decide +kernel
theorem dX5_owner_1 : decode cX5_owner 1 = .ok (.ifCond .lt 13, 3) := by decide +kernel
theorem dX5_owner_4 : decode cX5_owner 4 = .ok (.iload_n 1, 1) := by decide +kernel
theorem dX5_owner_5 : decode cX5_owner 5 = .ok (.bipush 8, 2) := by decide +kernel
theorem dX5_owner_7 : decode cX5_owner 7 = .ok (.if_icmp .ge 7, 3) := by decide +kernel
theorem dX5_owner_10 : decode cX5_owner 10 = .ok (.iconst 1, 1) := by decide +kernel
theorem dX5_owner_11 : decode cX5_owner 11 = .ok (.goto 4, 3) := by decide +kernel
theorem dX5_owner_14 : decode cX5_owner 14 = .ok (.iconst 0, 1) := by decide +kernel
theorem dX5_owner_15 : decode cX5_owner 15 = .ok (.invokestatic 50, 3) := by decide +kernel
theorem dX5_owner_18 : decode cX5_owner 18 = .ok (.aload_n 0, 1) := by decide +kernel
theorem dX5_owner_19 : decode cX5_owner 19 = .ok (.getfield 10, 3) := by decide +kernel
theorem dX5_owner_22 : decode cX5_owner 22 = .ok (.iload_n 1, 1) := by decide +kernel
theorem dX5_owner_23 : decode cX5_owner 23 = .ok (.invokevirtual 107, 3) := by decide +kernel
theorem dX5_owner_26 : decode cX5_owner 26 = .ok (.ireturn, 1) := by decide +kernel
theorem dX5_space_0 : decode cX5_space 0 = .ok (.iload_n 1, 1) := by decide +kernel
theorem dX5_space_1 : decode cX5_space 1 = .ok (.ifCond .lt 13, 3) := by decide +kernel
theorem dX5_space_4 : decode cX5_space 4 = .ok (.iload_n 1, 1) := by decide +kernel
theorem dX5_space_5 : decode cX5_space 5 = .ok (.bipush 12, 2) := by decide +kernel
theorem dX5_space_7 : decode cX5_space 7 = .ok (.if_icmp .ge 7, 3) := by decide +kernel
theorem dX5_space_10 : decode cX5_space 10 = .ok (.iconst 1, 1) := by decide +kernel
theorem dX5_space_11 : decode cX5_space 11 = .ok (.goto 4, 3) := by decide +kernel
theorem dX5_space_14 : decode cX5_space 14 = .ok (.iconst 0, 1) := by decide +kernel
theorem dX5_space_15 : decode cX5_space 15 = .ok (.invokestatic 50, 3) := by decide +kernel
theorem dX5_space_18 : decode cX5_space 18 = .ok (.iload_n 2, 1) := by decide +kernel
theorem dX5_space_19 : decode cX5_space 19 = .ok (.ifCond .lt 12, 3) := by decide +kernel
theorem dX5_space_22 : decode cX5_space 22 = .ok (.iload_n 2, 1) := by decide +kernel
theorem dX5_space_23 : decode cX5_space 23 = .ok (.iconst 4, 1) := by decide +kernel
theorem dX5_space_24 : decode cX5_space 24 = .ok (.if_icmp .ge 7, 3) := by decide +kernel
theorem dX5_space_27 : decode cX5_space 27 = .ok (.iconst 1, 1) := by decide +kernel
theorem dX5_space_28 : decode cX5_space 28 = .ok (.goto 4, 3) := by decide +kernel
theorem dX5_space_31 : decode cX5_space 31 = .ok (.iconst 0, 1) := by decide +kernel
theorem dX5_space_32 : decode cX5_space 32 = .ok (.invokestatic 38, 3) := by decide +kernel
theorem dX5_space_35 : decode cX5_space 35 = .ok (.aload_n 0, 1) := by decide +kernel
theorem dX5_space_36 : decode cX5_space 36 = .ok (.getfield 10, 3) := by decide +kernel
theorem dX5_space_39 : decode cX5_space 39 = .ok (.iload_n 1, 1) := by decide +kernel
theorem dX5_space_40 : decode cX5_space 40 = .ok (.iload_n 2, 1) := by decide +kernel
theorem dX5_space_41 : decode cX5_space 41 = .ok (.invokevirtual 110, 3) := by decide +kernel
theorem dX5_space_44 : decode cX5_space 44 = .ok (.ireturn, 1) := by decide +kernel
theorem dX5_cost_0 : decode cX5_cost 0 = .ok (.aload_n 0, 1) := by decide +kernel
theorem dX5_cost_1 : decode cX5_cost 1 = .ok (.iload_n 1, 1) := by decide +kernel
theorem dX5_cost_2 : decode cX5_cost 2 = .ok (.invokevirtual 91, 3) := by decide +kernel
theorem dX5_cost_5 : decode cX5_cost 5 = .ok (.iload_n 2, 1) := by decide +kernel
theorem dX5_cost_6 : decode cX5_cost 6 = .ok (.iconst (-1), 1) := by decide +kernel
theorem dX5_cost_7 : decode cX5_cost 7 = .ok (.if_icmp .lt 13, 3) := by decide +kernel
theorem dX5_cost_10 : decode cX5_cost 10 = .ok (.iload_n 2, 1) := by decide +kernel
theorem dX5_cost_11 : decode cX5_cost 11 = .ok (.bipush 8, 2) := by decide +kernel
theorem dX5_cost_13 : decode cX5_cost 13 = .ok (.if_icmp .ge 7, 3) := by decide +kernel
theorem dX5_cost_16 : decode cX5_cost 16 = .ok (.iconst 1, 1) := by decide +kernel
theorem dX5_cost_17 : decode cX5_cost 17 = .ok (.goto 4, 3) := by decide +kernel
theorem dX5_cost_20 : decode cX5_cost 20 = .ok (.iconst 0, 1) := by decide +kernel
theorem dX5_cost_21 : decode cX5_cost 21 = .ok (.invokestatic 38, 3) := by decide +kernel
theorem dX5_cost_24 : decode cX5_cost 24 = .ok (.iload_n 3, 1) := by decide +kernel
theorem dX5_cost_25 : decode cX5_cost 25 = .ok (.ifCond .eq 8, 3) := by decide +kernel
theorem dX5_cost_28 : decode cX5_cost 28 = .ok (.iload_n 3, 1) := by decide +kernel
theorem dX5_cost_29 : decode cX5_cost 29 = .ok (.iconst 1, 1) := by decide +kernel
theorem dX5_cost_30 : decode cX5_cost 30 = .ok (.if_icmp .ne 7, 3) := by decide +kernel
theorem dX5_cost_33 : decode cX5_cost 33 = .ok (.iconst 1, 1) := by decide +kernel
theorem dX5_cost_34 : decode cX5_cost 34 = .ok (.goto 4, 3) := by decide +kernel
theorem dX5_cost_37 : decode cX5_cost 37 = .ok (.iconst 0, 1) := by decide +kernel
theorem dX5_cost_38 : decode cX5_cost 38 = .ok (.invokestatic 38, 3) := by decide +kernel
theorem dX5_cost_41 : decode cX5_cost 41 = .ok (.aload_n 0, 1) := by decide +kernel
theorem dX5_cost_42 : decode cX5_cost 42 = .ok (.getfield 10, 3) := by decide +kernel
theorem dX5_cost_45 : decode cX5_cost 45 = .ok (.getfield 95, 3) := by decide +kernel
theorem dX5_cost_48 : decode cX5_cost 48 = .ok (.iload_n 1, 1) := by decide +kernel
theorem dX5_cost_49 : decode cX5_cost 49 = .ok (.aaload, 1) := by decide +kernel
theorem dX5_cost_50 : decode cX5_cost 50 = .ok (.iload_n 2, 1) := by decide +kernel
theorem dX5_cost_51 : decode cX5_cost 51 = .ok (.iload_n 3, 1) := by decide +kernel
theorem dX5_cost_52 : decode cX5_cost 52 = .ok (.invokevirtual 113, 3) := by decide +kernel
theorem dX5_cost_55 : decode cX5_cost 55 = .ok (.ireturn, 1) := by decide +kernel
theorem dX5_need_0 : decode cX5_need 0 = .ok (.aload_n 0, 1) := by decide +kernel
theorem dX5_need_1 : decode cX5_need 1 = .ok (.iload_n 1, 1) := by decide +kernel
theorem dX5_need_2 : decode cX5_need 2 = .ok (.invokevirtual 91, 3) := by decide +kernel
theorem dX5_need_5 : decode cX5_need 5 = .ok (.aload_n 0, 1) := by decide +kernel
theorem dX5_need_6 : decode cX5_need 6 = .ok (.getfield 10, 3) := by decide +kernel
theorem dX5_need_9 : decode cX5_need 9 = .ok (.getfield 95, 3) := by decide +kernel
theorem dX5_need_12 : decode cX5_need 12 = .ok (.iload_n 1, 1) := by decide +kernel
theorem dX5_need_13 : decode cX5_need 13 = .ok (.aaload, 1) := by decide +kernel
theorem dX5_need_14 : decode cX5_need 14 = .ok (.invokevirtual 116, 3) := by decide +kernel
theorem dX5_need_17 : decode cX5_need 17 = .ok (.ireturn, 1) := by decide +kernel
theorem dX5_missing_0 : decode cX5_missing 0 = .ok (.aload_n 0, 1) := by decide +kernel
theorem dX5_missing_1 : decode cX5_missing 1 = .ok (.iload_n 1, 1) := by decide +kernel
theorem dX5_missing_2 : decode cX5_missing 2 = .ok (.invokevirtual 91, 3) := by decide +kernel
theorem dX5_missing_5 : decode cX5_missing 5 = .ok (.aload_n 0, 1) := by decide +kernel
theorem dX5_missing_6 : decode cX5_missing 6 = .ok (.getfield 10, 3) := by decide +kernel
theorem dX5_missing_9 : decode cX5_missing 9 = .ok (.getfield 95, 3) := by decide +kernel
theorem dX5_missing_12 : decode cX5_missing 12 = .ok (.iload_n 1, 1) := by decide +kernel
theorem dX5_missing_13 : decode cX5_missing 13 = .ok (.aaload, 1) := by decide +kernel
theorem dX5_missing_14 : decode cX5_missing 14 = .ok (.invokevirtual 120, 3) := by decide +kernel
theorem dX5_missing_17 : decode cX5_missing 17 = .ok (.ireturn, 1) := by decide +kernel
theorem dX5_score_0 : decode cX5_score 0 = .ok (.aload_n 0, 1) := by decide +kernel
theorem dX5_score_1 : decode cX5_score 1 = .ok (.iload_n 1, 1) := by decide +kernel
theorem dX5_score_2 : decode cX5_score 2 = .ok (.invokevirtual 91, 3) := by decide +kernel
theorem dX5_score_5 : decode cX5_score 5 = .ok (.iload_n 2, 1) := by decide +kernel
theorem dX5_score_6 : decode cX5_score 6 = .ok (.ifCond .lt 13, 3) := by decide +kernel
theorem dX5_score_9 : decode cX5_score 9 = .ok (.iload_n 2, 1) := by decide +kernel
theorem dX5_score_10 : decode cX5_score 10 = .ok (.bipush 6, 2) := by decide +kernel
theorem dX5_score_12 : decode cX5_score 12 = .ok (.if_icmp .gt 7, 3) := by decide +kernel
theorem dX5_score_15 : decode cX5_score 15 = .ok (.iconst 1, 1) := by decide +kernel
theorem dX5_score_16 : decode cX5_score 16 = .ok (.goto 4, 3) := by decide +kernel
theorem dX5_score_19 : decode cX5_score 19 = .ok (.iconst 0, 1) := by decide +kernel
theorem dX5_score_20 : decode cX5_score 20 = .ok (.invokestatic 38, 3) := by decide +kernel
theorem dX5_score_23 : decode cX5_score 23 = .ok (.aload_n 0, 1) := by decide +kernel
theorem dX5_score_24 : decode cX5_score 24 = .ok (.getfield 10, 3) := by decide +kernel
theorem dX5_score_27 : decode cX5_score 27 = .ok (.getfield 95, 3) := by decide +kernel
theorem dX5_score_30 : decode cX5_score 30 = .ok (.iload_n 1, 1) := by decide +kernel
theorem dX5_score_31 : decode cX5_score 31 = .ok (.aaload, 1) := by decide +kernel
theorem dX5_score_32 : decode cX5_score 32 = .ok (.astore_n 3, 1) := by decide +kernel
theorem dX5_score_33 : decode cX5_score 33 = .ok (.iload_n 2, 1) := by decide +kernel
theorem dX5_score_34 : decode cX5_score 34 = .ok (.bipush 6, 2) := by decide +kernel
theorem dX5_score_36 : decode cX5_score 36 = .ok (.if_icmp .ne 10, 3) := by decide +kernel
theorem dX5_score_39 : decode cX5_score 39 = .ok (.aload_n 3, 1) := by decide +kernel
theorem dX5_score_40 : decode cX5_score 40 = .ok (.invokevirtual 123, 3) := by decide +kernel
theorem dX5_score_43 : decode cX5_score 43 = .ok (.goto 8, 3) := by decide +kernel
theorem dX5_score_46 : decode cX5_score 46 = .ok (.aload_n 3, 1) := by decide +kernel
theorem dX5_score_47 : decode cX5_score 47 = .ok (.iload_n 2, 1) := by decide +kernel
theorem dX5_score_48 : decode cX5_score 48 = .ok (.invokevirtual 126, 3) := by decide +kernel
theorem dX5_score_51 : decode cX5_score 51 = .ok (.ireturn, 1) := by decide +kernel
theorem dX5_rank_0 : decode cX5_rank 0 = .ok (.aload_n 0, 1) := by decide +kernel
theorem dX5_rank_1 : decode cX5_rank 1 = .ok (.iload_n 1, 1) := by decide +kernel
theorem dX5_rank_2 : decode cX5_rank 2 = .ok (.invokevirtual 91, 3) := by decide +kernel
theorem dX5_rank_5 : decode cX5_rank 5 = .ok (.aload_n 0, 1) := by decide +kernel
theorem dX5_rank_6 : decode cX5_rank 6 = .ok (.getfield 10, 3) := by decide +kernel
theorem dX5_rank_9 : decode cX5_rank 9 = .ok (.iload_n 1, 1) := by decide +kernel
theorem dX5_rank_10 : decode cX5_rank 10 = .ok (.invokevirtual 129, 3) := by decide +kernel
theorem dX5_rank_13 : decode cX5_rank 13 = .ok (.ireturn, 1) := by decide +kernel
theorem dX5_possible_0 : decode cX5_possible 0 = .ok (.aload_n 0, 1) := by decide +kernel
theorem dX5_possible_1 : decode cX5_possible 1 = .ok (.getfield 10, 3) := by decide +kernel
theorem dX5_possible_4 : decode cX5_possible 4 = .ok (.aload_n 0, 1) := by decide +kernel
theorem dX5_possible_5 : decode cX5_possible 5 = .ok (.getfield 30, 3) := by decide +kernel
theorem dX5_possible_8 : decode cX5_possible 8 = .ok (.invokevirtual 70, 3) := by decide +kernel
theorem dX5_possible_11 : decode cX5_possible 11 = .ok (.ireturn, 1) := by decide +kernel
theorem dX5_option_0 : decode cX5_option 0 = .ok (.iload_n 1, 1) := by decide +kernel
theorem dX5_option_1 : decode cX5_option 1 = .ok (.ifCond .lt 22, 3) := by decide +kernel
theorem dX5_option_4 : decode cX5_option 4 = .ok (.iload_n 1, 1) := by decide +kernel
theorem dX5_option_5 : decode cX5_option 5 = .ok (.aload_n 0, 1) := by decide +kernel
theorem dX5_option_6 : decode cX5_option 6 = .ok (.getfield 10, 3) := by decide +kernel
theorem dX5_option_9 : decode cX5_option 9 = .ok (.aload_n 0, 1) := by decide +kernel
theorem dX5_option_10 : decode cX5_option 10 = .ok (.getfield 30, 3) := by decide +kernel
theorem dX5_option_13 : decode cX5_option 13 = .ok (.invokevirtual 70, 3) := by decide +kernel
theorem dX5_option_16 : decode cX5_option 16 = .ok (.if_icmp .ge 7, 3) := by decide +kernel
theorem dX5_option_19 : decode cX5_option 19 = .ok (.iconst 1, 1) := by decide +kernel
theorem dX5_option_20 : decode cX5_option 20 = .ok (.goto 4, 3) := by decide +kernel
theorem dX5_option_23 : decode cX5_option 23 = .ok (.iconst 0, 1) := by decide +kernel
theorem dX5_option_24 : decode cX5_option 24 = .ok (.invokestatic 50, 3) := by decide +kernel
theorem dX5_option_27 : decode cX5_option 27 = .ok (.aload_n 0, 1) := by decide +kernel
theorem dX5_option_28 : decode cX5_option 28 = .ok (.getfield 30, 3) := by decide +kernel
theorem dX5_option_31 : decode cX5_option 31 = .ok (.iload_n 1, 1) := by decide +kernel
theorem dX5_option_32 : decode cX5_option 32 = .ok (.iaload, 1) := by decide +kernel
theorem dX5_option_33 : decode cX5_option 33 = .ok (.ireturn, 1) := by decide +kernel
theorem dX5_bestScore_0 : decode cX5_bestScore 0 = .ok (.iload_n 1, 1) := by decide +kernel
theorem dX5_bestScore_1 : decode cX5_bestScore 1 = .ok (.iconst 1, 1) := by decide +kernel
theorem dX5_bestScore_2 : decode cX5_bestScore 2 = .ok (.if_icmp .lt 12, 3) := by decide +kernel
theorem dX5_bestScore_5 : decode cX5_bestScore 5 = .ok (.iload_n 1, 1) := by decide +kernel
theorem dX5_bestScore_6 : decode cX5_bestScore 6 = .ok (.iconst 3, 1) := by decide +kernel
theorem dX5_bestScore_7 : decode cX5_bestScore 7 = .ok (.if_icmp .gt 7, 3) := by decide +kernel
theorem dX5_bestScore_10 : decode cX5_bestScore 10 = .ok (.iconst 1, 1) := by decide +kernel
theorem dX5_bestScore_11 : decode cX5_bestScore 11 = .ok (.goto 4, 3) := by decide +kernel
theorem dX5_bestScore_14 : decode cX5_bestScore 14 = .ok (.iconst 0, 1) := by decide +kernel
theorem dX5_bestScore_15 : decode cX5_bestScore 15 = .ok (.invokestatic 38, 3) := by decide +kernel
theorem dX5_bestScore_18 : decode cX5_bestScore 18 = .ok (.aload_n 0, 1) := by decide +kernel
theorem dX5_bestScore_19 : decode cX5_bestScore 19 = .ok (.getfield 26, 3) := by decide +kernel
theorem dX5_bestScore_22 : decode cX5_bestScore 22 = .ok (.aload_n 0, 1) := by decide +kernel
theorem dX5_bestScore_23 : decode cX5_bestScore 23 = .ok (.getfield 10, 3) := by decide +kernel
theorem dX5_bestScore_26 : decode cX5_bestScore 26 = .ok (.iload_n 1, 1) := by decide +kernel
theorem dX5_bestScore_27 : decode cX5_bestScore 27 = .ok (.invokevirtual 77, 3) := by decide +kernel
theorem dX5_bestScore_30 : decode cX5_bestScore 30 = .ok (.aload_n 0, 1) := by decide +kernel
theorem dX5_bestScore_31 : decode cX5_bestScore 31 = .ok (.getfield 26, 3) := by decide +kernel
theorem dX5_bestScore_34 : decode cX5_bestScore 34 = .ok (.invokevirtual 132, 3) := by decide +kernel
theorem dX5_bestScore_37 : decode cX5_bestScore 37 = .ok (.ireturn, 1) := by decide +kernel
theorem dX5_bestPlacement_0 : decode cX5_bestPlacement 0 = .ok (.iload_n 1, 1) := by decide +kernel
theorem dX5_bestPlacement_1 : decode cX5_bestPlacement 1 = .ok (.iconst 1, 1) := by decide +kernel
theorem dX5_bestPlacement_2 : decode cX5_bestPlacement 2 = .ok (.if_icmp .lt 12, 3) := by decide +kernel
theorem dX5_bestPlacement_5 : decode cX5_bestPlacement 5 = .ok (.iload_n 1, 1) := by decide +kernel
theorem dX5_bestPlacement_6 : decode cX5_bestPlacement 6 = .ok (.iconst 3, 1) := by decide +kernel
theorem dX5_bestPlacement_7 : decode cX5_bestPlacement 7 = .ok (.if_icmp .gt 7, 3) := by decide +kernel
theorem dX5_bestPlacement_10 : decode cX5_bestPlacement 10 = .ok (.iconst 1, 1) := by decide +kernel
theorem dX5_bestPlacement_11 : decode cX5_bestPlacement 11 = .ok (.goto 4, 3) := by decide +kernel
theorem dX5_bestPlacement_14 : decode cX5_bestPlacement 14 = .ok (.iconst 0, 1) := by decide +kernel
theorem dX5_bestPlacement_15 : decode cX5_bestPlacement 15 = .ok (.invokestatic 38, 3) := by decide +kernel
theorem dX5_bestPlacement_18 : decode cX5_bestPlacement 18 = .ok (.iload_n 2, 1) := by decide +kernel
theorem dX5_bestPlacement_19 : decode cX5_bestPlacement 19 = .ok (.ifCond .lt 12, 3) := by decide +kernel
theorem dX5_bestPlacement_22 : decode cX5_bestPlacement 22 = .ok (.iload_n 2, 1) := by decide +kernel
theorem dX5_bestPlacement_23 : decode cX5_bestPlacement 23 = .ok (.iload_n 1, 1) := by decide +kernel
theorem dX5_bestPlacement_24 : decode cX5_bestPlacement 24 = .ok (.if_icmp .ge 7, 3) := by decide +kernel
theorem dX5_bestPlacement_27 : decode cX5_bestPlacement 27 = .ok (.iconst 1, 1) := by decide +kernel
theorem dX5_bestPlacement_28 : decode cX5_bestPlacement 28 = .ok (.goto 4, 3) := by decide +kernel
theorem dX5_bestPlacement_31 : decode cX5_bestPlacement 31 = .ok (.iconst 0, 1) := by decide +kernel
theorem dX5_bestPlacement_32 : decode cX5_bestPlacement 32 = .ok (.invokestatic 38, 3) := by decide +kernel
theorem dX5_bestPlacement_35 : decode cX5_bestPlacement 35 = .ok (.aload_n 0, 1) := by decide +kernel
theorem dX5_bestPlacement_36 : decode cX5_bestPlacement 36 = .ok (.getfield 26, 3) := by decide +kernel
theorem dX5_bestPlacement_39 : decode cX5_bestPlacement 39 = .ok (.aload_n 0, 1) := by decide +kernel
theorem dX5_bestPlacement_40 : decode cX5_bestPlacement 40 = .ok (.getfield 10, 3) := by decide +kernel
theorem dX5_bestPlacement_43 : decode cX5_bestPlacement 43 = .ok (.iload_n 1, 1) := by decide +kernel
theorem dX5_bestPlacement_44 : decode cX5_bestPlacement 44 = .ok (.invokevirtual 77, 3) := by decide +kernel
theorem dX5_bestPlacement_47 : decode cX5_bestPlacement 47 = .ok (.aload_n 0, 1) := by decide +kernel
theorem dX5_bestPlacement_48 : decode cX5_bestPlacement 48 = .ok (.getfield 26, 3) := by decide +kernel
theorem dX5_bestPlacement_51 : decode cX5_bestPlacement 51 = .ok (.iload_n 2, 1) := by decide +kernel
theorem dX5_bestPlacement_52 : decode cX5_bestPlacement 52 = .ok (.invokevirtual 81, 3) := by decide +kernel
theorem dX5_bestPlacement_55 : decode cX5_bestPlacement 55 = .ok (.ireturn, 1) := by decide +kernel
theorem dX5_moves_0 : decode cX5_moves 0 = .ok (.aload_n 0, 1) := by decide +kernel
theorem dX5_moves_1 : decode cX5_moves 1 = .ok (.getfield 10, 3) := by decide +kernel
theorem dX5_moves_4 : decode cX5_moves 4 = .ok (.getfield 135, 3) := by decide +kernel
theorem dX5_moves_7 : decode cX5_moves 7 = .ok (.getfield 139, 3) := by decide +kernel
theorem dX5_moves_10 : decode cX5_moves 10 = .ok (.ireturn, 1) := by decide +kernel
theorem dX5_move_0 : decode cX5_move 0 = .ok (.iload_n 1, 1) := by decide +kernel
theorem dX5_move_1 : decode cX5_move 1 = .ok (.ifCond .lt 21, 3) := by decide +kernel
theorem dX5_move_4 : decode cX5_move 4 = .ok (.iload_n 1, 1) := by decide +kernel
theorem dX5_move_5 : decode cX5_move 5 = .ok (.aload_n 0, 1) := by decide +kernel
theorem dX5_move_6 : decode cX5_move 6 = .ok (.getfield 10, 3) := by decide +kernel
theorem dX5_move_9 : decode cX5_move 9 = .ok (.getfield 135, 3) := by decide +kernel
theorem dX5_move_12 : decode cX5_move 12 = .ok (.getfield 139, 3) := by decide +kernel
theorem dX5_move_15 : decode cX5_move 15 = .ok (.if_icmp .ge 7, 3) := by decide +kernel
theorem dX5_move_18 : decode cX5_move 18 = .ok (.iconst 1, 1) := by decide +kernel
theorem dX5_move_19 : decode cX5_move 19 = .ok (.goto 4, 3) := by decide +kernel
theorem dX5_move_22 : decode cX5_move 22 = .ok (.iconst 0, 1) := by decide +kernel
theorem dX5_move_23 : decode cX5_move 23 = .ok (.invokestatic 50, 3) := by decide +kernel
theorem dX5_move_26 : decode cX5_move 26 = .ok (.iload_n 2, 1) := by decide +kernel
theorem dX5_move_27 : decode cX5_move 27 = .ok (.ifCond .lt 12, 3) := by decide +kernel
theorem dX5_move_30 : decode cX5_move 30 = .ok (.iload_n 2, 1) := by decide +kernel
theorem dX5_move_31 : decode cX5_move 31 = .ok (.iconst 4, 1) := by decide +kernel
theorem dX5_move_32 : decode cX5_move 32 = .ok (.if_icmp .ge 7, 3) := by decide +kernel
theorem dX5_move_35 : decode cX5_move 35 = .ok (.iconst 1, 1) := by decide +kernel
theorem dX5_move_36 : decode cX5_move 36 = .ok (.goto 4, 3) := by decide +kernel
theorem dX5_move_39 : decode cX5_move 39 = .ok (.iconst 0, 1) := by decide +kernel
theorem dX5_move_40 : decode cX5_move 40 = .ok (.invokestatic 38, 3) := by decide +kernel
theorem dX5_move_43 : decode cX5_move 43 = .ok (.aload_n 0, 1) := by decide +kernel
theorem dX5_move_44 : decode cX5_move 44 = .ok (.getfield 10, 3) := by decide +kernel
theorem dX5_move_47 : decode cX5_move 47 = .ok (.getfield 135, 3) := by decide +kernel
theorem dX5_move_50 : decode cX5_move 50 = .ok (.iload_n 1, 1) := by decide +kernel
theorem dX5_move_51 : decode cX5_move 51 = .ok (.iload_n 2, 1) := by decide +kernel
theorem dX5_move_52 : decode cX5_move 52 = .ok (.invokevirtual 144, 3) := by decide +kernel
theorem dX5_move_55 : decode cX5_move 55 = .ok (.ireturn, 1) := by decide +kernel
theorem dX5_undo_0 : decode cX5_undo 0 = .ok (.aload_n 0, 1) := by decide +kernel
theorem dX5_undo_1 : decode cX5_undo 1 = .ok (.getfield 19, 3) := by decide +kernel
theorem dX5_undo_4 : decode cX5_undo 4 = .ok (.getfield 146, 3) := by decide +kernel
theorem dX5_undo_7 : decode cX5_undo 7 = .ok (.ifCond .le 7, 3) := by decide +kernel
theorem dX5_undo_10 : decode cX5_undo 10 = .ok (.iconst 1, 1) := by decide +kernel
theorem dX5_undo_11 : decode cX5_undo 11 = .ok (.goto 4, 3) := by decide +kernel
theorem dX5_undo_14 : decode cX5_undo 14 = .ok (.iconst 0, 1) := by decide +kernel
theorem dX5_undo_15 : decode cX5_undo 15 = .ok (.invokestatic 57, 3) := by decide +kernel
theorem dX5_undo_18 : decode cX5_undo 18 = .ok (.aload_n 0, 1) := by decide +kernel
theorem dX5_undo_19 : decode cX5_undo 19 = .ok (.getfield 19, 3) := by decide +kernel
theorem dX5_undo_22 : decode cX5_undo 22 = .ok (.aload_n 0, 1) := by decide +kernel
theorem dX5_undo_23 : decode cX5_undo 23 = .ok (.getfield 10, 3) := by decide +kernel
theorem dX5_undo_26 : decode cX5_undo 26 = .ok (.invokevirtual 147, 3) := by decide +kernel
theorem dX5_undo_29 : decode cX5_undo 29 = .ok (.aload_n 0, 1) := by decide +kernel
theorem dX5_undo_30 : decode cX5_undo 30 = .ok (.getfield 19, 3) := by decide +kernel
theorem dX5_undo_33 : decode cX5_undo 33 = .ok (.getfield 146, 3) := by decide +kernel
theorem dX5_undo_36 : decode cX5_undo 36 = .ok (.ireturn, 1) := by decide +kernel
theorem dX5_digest_0 : decode cX5_digest 0 = .ok (.ldc2_w 150, 3) := by decide +kernel
theorem dX5_digest_3 : decode cX5_digest 3 = .ok (.aload_n 0, 1) := by decide +kernel
theorem dX5_digest_4 : decode cX5_digest 4 = .ok (.getfield 19, 3) := by decide +kernel
theorem dX5_digest_7 : decode cX5_digest 7 = .ok (.getfield 146, 3) := by decide +kernel
theorem dX5_digest_10 : decode cX5_digest 10 = .ok (.i2l, 1) := by decide +kernel
theorem dX5_digest_11 : decode cX5_digest 11 = .ok (.invokestatic 152, 3) := by decide +kernel
theorem dX5_digest_14 : decode cX5_digest 14 = .ok (.lstore_n 1, 1) := by decide +kernel
theorem dX5_digest_15 : decode cX5_digest 15 = .ok (.lload_n 1, 1) := by decide +kernel
theorem dX5_digest_16 : decode cX5_digest 16 = .ok (.aload_n 0, 1) := by decide +kernel
theorem dX5_digest_17 : decode cX5_digest 17 = .ok (.getfield 10, 3) := by decide +kernel
theorem dX5_digest_20 : decode cX5_digest 20 = .ok (.getfield 85, 3) := by decide +kernel
theorem dX5_digest_23 : decode cX5_digest 23 = .ok (.i2l, 1) := by decide +kernel
theorem dX5_digest_24 : decode cX5_digest 24 = .ok (.invokestatic 152, 3) := by decide +kernel
theorem dX5_digest_27 : decode cX5_digest 27 = .ok (.lstore_n 1, 1) := by decide +kernel
theorem dX5_digest_28 : decode cX5_digest 28 = .ok (.lload_n 1, 1) := by decide +kernel
theorem dX5_digest_29 : decode cX5_digest 29 = .ok (.aload_n 0, 1) := by decide +kernel
theorem dX5_digest_30 : decode cX5_digest 30 = .ok (.getfield 10, 3) := by decide +kernel
theorem dX5_digest_33 : decode cX5_digest 33 = .ok (.getfield 46, 3) := by decide +kernel
theorem dX5_digest_36 : decode cX5_digest 36 = .ok (.i2l, 1) := by decide +kernel
theorem dX5_digest_37 : decode cX5_digest 37 = .ok (.invokestatic 152, 3) := by decide +kernel
theorem dX5_digest_40 : decode cX5_digest 40 = .ok (.lstore_n 1, 1) := by decide +kernel
theorem dX5_digest_41 : decode cX5_digest 41 = .ok (.lload_n 1, 1) := by decide +kernel
theorem dX5_digest_42 : decode cX5_digest 42 = .ok (.aload_n 0, 1) := by decide +kernel
theorem dX5_digest_43 : decode cX5_digest 43 = .ok (.getfield 10, 3) := by decide +kernel
theorem dX5_digest_46 : decode cX5_digest 46 = .ok (.getfield 156, 3) := by decide +kernel
theorem dX5_digest_49 : decode cX5_digest 49 = .ok (.i2l, 1) := by decide +kernel
theorem dX5_digest_50 : decode cX5_digest 50 = .ok (.invokestatic 152, 3) := by decide +kernel
theorem dX5_digest_53 : decode cX5_digest 53 = .ok (.lstore_n 1, 1) := by decide +kernel
theorem dX5_digest_54 : decode cX5_digest 54 = .ok (.lload_n 1, 1) := by decide +kernel
theorem dX5_digest_55 : decode cX5_digest 55 = .ok (.aload_n 0, 1) := by decide +kernel
theorem dX5_digest_56 : decode cX5_digest 56 = .ok (.getfield 10, 3) := by decide +kernel
theorem dX5_digest_59 : decode cX5_digest 59 = .ok (.getfield 63, 3) := by decide +kernel
theorem dX5_digest_62 : decode cX5_digest 62 = .ok (.i2l, 1) := by decide +kernel
theorem dX5_digest_63 : decode cX5_digest 63 = .ok (.invokestatic 152, 3) := by decide +kernel
theorem dX5_digest_66 : decode cX5_digest 66 = .ok (.lstore_n 1, 1) := by decide +kernel
theorem dX5_digest_67 : decode cX5_digest 67 = .ok (.lload_n 1, 1) := by decide +kernel
theorem dX5_digest_68 : decode cX5_digest 68 = .ok (.aload_n 0, 1) := by decide +kernel
theorem dX5_digest_69 : decode cX5_digest 69 = .ok (.getfield 10, 3) := by decide +kernel
theorem dX5_digest_72 : decode cX5_digest 72 = .ok (.getfield 88, 3) := by decide +kernel
theorem dX5_digest_75 : decode cX5_digest 75 = .ok (.i2l, 1) := by decide +kernel
theorem dX5_digest_76 : decode cX5_digest 76 = .ok (.invokestatic 152, 3) := by decide +kernel
theorem dX5_digest_79 : decode cX5_digest 79 = .ok (.lstore_n 1, 1) := by decide +kernel
theorem dX5_digest_80 : decode cX5_digest 80 = .ok (.iconst 0, 1) := by decide +kernel
theorem dX5_digest_81 : decode cX5_digest 81 = .ok (.istore_n 3, 1) := by decide +kernel
theorem dX5_digest_82 : decode cX5_digest 82 = .ok (.iload_n 3, 1) := by decide +kernel
theorem dX5_digest_83 : decode cX5_digest 83 = .ok (.aload_n 0, 1) := by decide +kernel
theorem dX5_digest_84 : decode cX5_digest 84 = .ok (.getfield 10, 3) := by decide +kernel
theorem dX5_digest_87 : decode cX5_digest 87 = .ok (.getfield 85, 3) := by decide +kernel
theorem dX5_digest_90 : decode cX5_digest 90 = .ok (.if_icmp .ge 16, 3) := by decide +kernel
theorem dX5_digest_93 : decode cX5_digest 93 = .ok (.aload_n 0, 1) := by decide +kernel
theorem dX5_digest_94 : decode cX5_digest 94 = .ok (.lload_n 1, 1) := by decide +kernel
theorem dX5_digest_95 : decode cX5_digest 95 = .ok (.iload_n 3, 1) := by decide +kernel
theorem dX5_digest_96 : decode cX5_digest 96 = .ok (.invokevirtual 159, 3) := by decide +kernel
theorem dX5_digest_99 : decode cX5_digest 99 = .ok (.lstore_n 1, 1) := by decide +kernel
theorem dX5_digest_100 : decode cX5_digest 100 = .ok (.iinc 3 1, 3) := by decide +kernel
theorem dX5_digest_103 : decode cX5_digest 103 = .ok (.goto (-21), 3) := by decide +kernel
theorem dX5_digest_106 : decode cX5_digest 106 = .ok (.aload_n 0, 1) := by decide +kernel
theorem dX5_digest_107 : decode cX5_digest 107 = .ok (.lload_n 1, 1) := by decide +kernel
theorem dX5_digest_108 : decode cX5_digest 108 = .ok (.invokevirtual 163, 3) := by decide +kernel
theorem dX5_digest_111 : decode cX5_digest 111 = .ok (.lstore_n 1, 1) := by decide +kernel
theorem dX5_digest_112 : decode cX5_digest 112 = .ok (.lload_n 1, 1) := by decide +kernel
theorem dX5_digest_113 : decode cX5_digest 113 = .ok (.aload_n 0, 1) := by decide +kernel
theorem dX5_digest_114 : decode cX5_digest 114 = .ok (.getfield 10, 3) := by decide +kernel
theorem dX5_digest_117 : decode cX5_digest 117 = .ok (.aload_n 0, 1) := by decide +kernel
theorem dX5_digest_118 : decode cX5_digest 118 = .ok (.getfield 30, 3) := by decide +kernel
theorem dX5_digest_121 : decode cX5_digest 121 = .ok (.invokevirtual 70, 3) := by decide +kernel
theorem dX5_digest_124 : decode cX5_digest 124 = .ok (.i2l, 1) := by decide +kernel
theorem dX5_digest_125 : decode cX5_digest 125 = .ok (.invokestatic 152, 3) := by decide +kernel
theorem dX5_digest_128 : decode cX5_digest 128 = .ok (.lstore_n 1, 1) := by decide +kernel
theorem dX5_digest_129 : decode cX5_digest 129 = .ok (.aload_n 0, 1) := by decide +kernel
theorem dX5_digest_130 : decode cX5_digest 130 = .ok (.getfield 26, 3) := by decide +kernel
theorem dX5_digest_133 : decode cX5_digest 133 = .ok (.aload_n 0, 1) := by decide +kernel
theorem dX5_digest_134 : decode cX5_digest 134 = .ok (.getfield 10, 3) := by decide +kernel
theorem dX5_digest_137 : decode cX5_digest 137 = .ok (.iconst 1, 1) := by decide +kernel
theorem dX5_digest_138 : decode cX5_digest 138 = .ok (.invokevirtual 77, 3) := by decide +kernel
theorem dX5_digest_141 : decode cX5_digest 141 = .ok (.lload_n 1, 1) := by decide +kernel
theorem dX5_digest_142 : decode cX5_digest 142 = .ok (.aload_n 0, 1) := by decide +kernel
theorem dX5_digest_143 : decode cX5_digest 143 = .ok (.getfield 26, 3) := by decide +kernel
theorem dX5_digest_146 : decode cX5_digest 146 = .ok (.invokevirtual 132, 3) := by decide +kernel
theorem dX5_digest_149 : decode cX5_digest 149 = .ok (.i2l, 1) := by decide +kernel
theorem dX5_digest_150 : decode cX5_digest 150 = .ok (.invokestatic 152, 3) := by decide +kernel
theorem dX5_digest_153 : decode cX5_digest 153 = .ok (.lstore_n 1, 1) := by decide +kernel
theorem dX5_digest_154 : decode cX5_digest 154 = .ok (.lload_n 1, 1) := by decide +kernel
theorem dX5_digest_155 : decode cX5_digest 155 = .ok (.aload_n 0, 1) := by decide +kernel
theorem dX5_digest_156 : decode cX5_digest 156 = .ok (.getfield 26, 3) := by decide +kernel
theorem dX5_digest_159 : decode cX5_digest 159 = .ok (.iconst 0, 1) := by decide +kernel
theorem dX5_digest_160 : decode cX5_digest 160 = .ok (.invokevirtual 81, 3) := by decide +kernel
theorem dX5_digest_163 : decode cX5_digest 163 = .ok (.i2l, 1) := by decide +kernel
theorem dX5_digest_164 : decode cX5_digest 164 = .ok (.invokestatic 152, 3) := by decide +kernel
theorem dX5_digest_167 : decode cX5_digest 167 = .ok (.lstore_n 1, 1) := by decide +kernel
theorem dX5_digest_168 : decode cX5_digest 168 = .ok (.aload_n 0, 1) := by decide +kernel
theorem dX5_digest_169 : decode cX5_digest 169 = .ok (.lload_n 1, 1) := by decide +kernel
theorem dX5_digest_170 : decode cX5_digest 170 = .ok (.invokevirtual 167, 3) := by decide +kernel
theorem dX5_digest_173 : decode cX5_digest 173 = .ok (.lreturn, 1) := by decide +kernel
theorem dX5_mixPlayer_0 : decode cX5_mixPlayer 0 = .ok (.aload_n 0, 1) := by decide +kernel
theorem dX5_mixPlayer_1 : decode cX5_mixPlayer 1 = .ok (.getfield 10, 3) := by decide +kernel
theorem dX5_mixPlayer_4 : decode cX5_mixPlayer 4 = .ok (.getfield 95, 3) := by decide +kernel
theorem dX5_mixPlayer_7 : decode cX5_mixPlayer 7 = .ok (.iload_n 3, 1) := by decide +kernel
theorem dX5_mixPlayer_8 : decode cX5_mixPlayer 8 = .ok (.aaload, 1) := by decide +kernel
theorem dX5_mixPlayer_9 : decode cX5_mixPlayer 9 = .ok (.astore 4, 2) := by decide +kernel
theorem dX5_mixPlayer_11 : decode cX5_mixPlayer 11 = .ok (.lload_n 1, 1) := by decide +kernel
theorem dX5_mixPlayer_12 : decode cX5_mixPlayer 12 = .ok (.lstore 5, 2) := by decide +kernel
theorem dX5_mixPlayer_14 : decode cX5_mixPlayer 14 = .ok (.iconst 0, 1) := by decide +kernel
theorem dX5_mixPlayer_15 : decode cX5_mixPlayer 15 = .ok (.istore 7, 2) := by decide +kernel
theorem dX5_mixPlayer_17 : decode cX5_mixPlayer 17 = .ok (.iload 7, 2) := by decide +kernel
theorem dX5_mixPlayer_19 : decode cX5_mixPlayer 19 = .ok (.iconst 5, 1) := by decide +kernel
theorem dX5_mixPlayer_20 : decode cX5_mixPlayer 20 = .ok (.if_icmp .ge 25, 3) := by decide +kernel
theorem dX5_mixPlayer_23 : decode cX5_mixPlayer 23 = .ok (.lload 5, 2) := by decide +kernel
theorem dX5_mixPlayer_25 : decode cX5_mixPlayer 25 = .ok (.aload 4, 2) := by decide +kernel
theorem dX5_mixPlayer_27 : decode cX5_mixPlayer 27 = .ok (.getfield 99, 3) := by decide +kernel
theorem dX5_mixPlayer_30 : decode cX5_mixPlayer 30 = .ok (.iload 7, 2) := by decide +kernel
theorem dX5_mixPlayer_32 : decode cX5_mixPlayer 32 = .ok (.iaload, 1) := by decide +kernel
theorem dX5_mixPlayer_33 : decode cX5_mixPlayer 33 = .ok (.i2l, 1) := by decide +kernel
theorem dX5_mixPlayer_34 : decode cX5_mixPlayer 34 = .ok (.invokestatic 152, 3) := by decide +kernel
theorem dX5_mixPlayer_37 : decode cX5_mixPlayer 37 = .ok (.lstore 5, 2) := by decide +kernel
theorem dX5_mixPlayer_39 : decode cX5_mixPlayer 39 = .ok (.iinc 7 1, 3) := by decide +kernel
theorem dX5_mixPlayer_42 : decode cX5_mixPlayer 42 = .ok (.goto (-25), 3) := by decide +kernel
theorem dX5_mixPlayer_45 : decode cX5_mixPlayer 45 = .ok (.iconst 0, 1) := by decide +kernel
theorem dX5_mixPlayer_46 : decode cX5_mixPlayer 46 = .ok (.istore 7, 2) := by decide +kernel
theorem dX5_mixPlayer_48 : decode cX5_mixPlayer 48 = .ok (.iload 7, 2) := by decide +kernel
theorem dX5_mixPlayer_50 : decode cX5_mixPlayer 50 = .ok (.bipush 6, 2) := by decide +kernel
theorem dX5_mixPlayer_52 : decode cX5_mixPlayer 52 = .ok (.if_icmp .ge 24, 3) := by decide +kernel
theorem dX5_mixPlayer_55 : decode cX5_mixPlayer 55 = .ok (.lload 5, 2) := by decide +kernel
theorem dX5_mixPlayer_57 : decode cX5_mixPlayer 57 = .ok (.aload 4, 2) := by decide +kernel
theorem dX5_mixPlayer_59 : decode cX5_mixPlayer 59 = .ok (.iload 7, 2) := by decide +kernel
theorem dX5_mixPlayer_61 : decode cX5_mixPlayer 61 = .ok (.invokevirtual 104, 3) := by decide +kernel
theorem dX5_mixPlayer_64 : decode cX5_mixPlayer 64 = .ok (.i2l, 1) := by decide +kernel
theorem dX5_mixPlayer_65 : decode cX5_mixPlayer 65 = .ok (.invokestatic 152, 3) := by decide +kernel
theorem dX5_mixPlayer_68 : decode cX5_mixPlayer 68 = .ok (.lstore 5, 2) := by decide +kernel
theorem dX5_mixPlayer_70 : decode cX5_mixPlayer 70 = .ok (.iinc 7 1, 3) := by decide +kernel
theorem dX5_mixPlayer_73 : decode cX5_mixPlayer 73 = .ok (.goto (-25), 3) := by decide +kernel
theorem dX5_mixPlayer_76 : decode cX5_mixPlayer 76 = .ok (.lload 5, 2) := by decide +kernel
theorem dX5_mixPlayer_78 : decode cX5_mixPlayer 78 = .ok (.aload 4, 2) := by decide +kernel
theorem dX5_mixPlayer_80 : decode cX5_mixPlayer 80 = .ok (.invokevirtual 116, 3) := by decide +kernel
theorem dX5_mixPlayer_83 : decode cX5_mixPlayer 83 = .ok (.i2l, 1) := by decide +kernel
theorem dX5_mixPlayer_84 : decode cX5_mixPlayer 84 = .ok (.invokestatic 152, 3) := by decide +kernel
theorem dX5_mixPlayer_87 : decode cX5_mixPlayer 87 = .ok (.lstore 5, 2) := by decide +kernel
theorem dX5_mixPlayer_89 : decode cX5_mixPlayer 89 = .ok (.lload 5, 2) := by decide +kernel
theorem dX5_mixPlayer_91 : decode cX5_mixPlayer 91 = .ok (.aload 4, 2) := by decide +kernel
theorem dX5_mixPlayer_93 : decode cX5_mixPlayer 93 = .ok (.invokevirtual 120, 3) := by decide +kernel
theorem dX5_mixPlayer_96 : decode cX5_mixPlayer 96 = .ok (.i2l, 1) := by decide +kernel
theorem dX5_mixPlayer_97 : decode cX5_mixPlayer 97 = .ok (.invokestatic 152, 3) := by decide +kernel
theorem dX5_mixPlayer_100 : decode cX5_mixPlayer 100 = .ok (.lstore 5, 2) := by decide +kernel
theorem dX5_mixPlayer_102 : decode cX5_mixPlayer 102 = .ok (.iconst 0, 1) := by decide +kernel
theorem dX5_mixPlayer_103 : decode cX5_mixPlayer 103 = .ok (.istore 7, 2) := by decide +kernel
theorem dX5_mixPlayer_105 : decode cX5_mixPlayer 105 = .ok (.iload 7, 2) := by decide +kernel
theorem dX5_mixPlayer_107 : decode cX5_mixPlayer 107 = .ok (.bipush 6, 2) := by decide +kernel
theorem dX5_mixPlayer_109 : decode cX5_mixPlayer 109 = .ok (.if_icmp .ge 24, 3) := by decide +kernel
theorem dX5_mixPlayer_112 : decode cX5_mixPlayer 112 = .ok (.lload 5, 2) := by decide +kernel
theorem dX5_mixPlayer_114 : decode cX5_mixPlayer 114 = .ok (.aload 4, 2) := by decide +kernel
theorem dX5_mixPlayer_116 : decode cX5_mixPlayer 116 = .ok (.iload 7, 2) := by decide +kernel
theorem dX5_mixPlayer_118 : decode cX5_mixPlayer 118 = .ok (.invokevirtual 126, 3) := by decide +kernel
theorem dX5_mixPlayer_121 : decode cX5_mixPlayer 121 = .ok (.i2l, 1) := by decide +kernel
theorem dX5_mixPlayer_122 : decode cX5_mixPlayer 122 = .ok (.invokestatic 152, 3) := by decide +kernel
theorem dX5_mixPlayer_125 : decode cX5_mixPlayer 125 = .ok (.lstore 5, 2) := by decide +kernel
theorem dX5_mixPlayer_127 : decode cX5_mixPlayer 127 = .ok (.iinc 7 1, 3) := by decide +kernel
theorem dX5_mixPlayer_130 : decode cX5_mixPlayer 130 = .ok (.goto (-25), 3) := by decide +kernel
theorem dX5_mixPlayer_133 : decode cX5_mixPlayer 133 = .ok (.lload 5, 2) := by decide +kernel
theorem dX5_mixPlayer_135 : decode cX5_mixPlayer 135 = .ok (.aload 4, 2) := by decide +kernel
theorem dX5_mixPlayer_137 : decode cX5_mixPlayer 137 = .ok (.invokevirtual 123, 3) := by decide +kernel
theorem dX5_mixPlayer_140 : decode cX5_mixPlayer 140 = .ok (.i2l, 1) := by decide +kernel
theorem dX5_mixPlayer_141 : decode cX5_mixPlayer 141 = .ok (.invokestatic 152, 3) := by decide +kernel
theorem dX5_mixPlayer_144 : decode cX5_mixPlayer 144 = .ok (.lstore 5, 2) := by decide +kernel
theorem dX5_mixPlayer_146 : decode cX5_mixPlayer 146 = .ok (.lload 5, 2) := by decide +kernel
theorem dX5_mixPlayer_148 : decode cX5_mixPlayer 148 = .ok (.aload_n 0, 1) := by decide +kernel
theorem dX5_mixPlayer_149 : decode cX5_mixPlayer 149 = .ok (.getfield 10, 3) := by decide +kernel
theorem dX5_mixPlayer_152 : decode cX5_mixPlayer 152 = .ok (.iload_n 3, 1) := by decide +kernel
theorem dX5_mixPlayer_153 : decode cX5_mixPlayer 153 = .ok (.invokevirtual 129, 3) := by decide +kernel
theorem dX5_mixPlayer_156 : decode cX5_mixPlayer 156 = .ok (.i2l, 1) := by decide +kernel
theorem dX5_mixPlayer_157 : decode cX5_mixPlayer 157 = .ok (.invokestatic 152, 3) := by decide +kernel
theorem dX5_mixPlayer_160 : decode cX5_mixPlayer 160 = .ok (.lreturn, 1) := by decide +kernel
theorem dX5_mixSpaces_0 : decode cX5_mixSpaces 0 = .ok (.lload_n 1, 1) := by decide +kernel
theorem dX5_mixSpaces_1 : decode cX5_mixSpaces 1 = .ok (.lstore_n 3, 1) := by decide +kernel
theorem dX5_mixSpaces_2 : decode cX5_mixSpaces 2 = .ok (.iconst 0, 1) := by decide +kernel
theorem dX5_mixSpaces_3 : decode cX5_mixSpaces 3 = .ok (.istore 5, 2) := by decide +kernel
theorem dX5_mixSpaces_5 : decode cX5_mixSpaces 5 = .ok (.iload 5, 2) := by decide +kernel
theorem dX5_mixSpaces_7 : decode cX5_mixSpaces 7 = .ok (.bipush 12, 2) := by decide +kernel
theorem dX5_mixSpaces_9 : decode cX5_mixSpaces 9 = .ok (.if_icmp .ge 41, 3) := by decide +kernel
theorem dX5_mixSpaces_12 : decode cX5_mixSpaces 12 = .ok (.iconst 0, 1) := by decide +kernel
theorem dX5_mixSpaces_13 : decode cX5_mixSpaces 13 = .ok (.istore 6, 2) := by decide +kernel
theorem dX5_mixSpaces_15 : decode cX5_mixSpaces 15 = .ok (.iload 6, 2) := by decide +kernel
theorem dX5_mixSpaces_17 : decode cX5_mixSpaces 17 = .ok (.iconst 4, 1) := by decide +kernel
theorem dX5_mixSpaces_18 : decode cX5_mixSpaces 18 = .ok (.if_icmp .ge 26, 3) := by decide +kernel
theorem dX5_mixSpaces_21 : decode cX5_mixSpaces 21 = .ok (.lload_n 3, 1) := by decide +kernel
theorem dX5_mixSpaces_22 : decode cX5_mixSpaces 22 = .ok (.aload_n 0, 1) := by decide +kernel
theorem dX5_mixSpaces_23 : decode cX5_mixSpaces 23 = .ok (.getfield 10, 3) := by decide +kernel
theorem dX5_mixSpaces_26 : decode cX5_mixSpaces 26 = .ok (.iload 5, 2) := by decide +kernel
theorem dX5_mixSpaces_28 : decode cX5_mixSpaces 28 = .ok (.iload 6, 2) := by decide +kernel
theorem dX5_mixSpaces_30 : decode cX5_mixSpaces 30 = .ok (.invokevirtual 110, 3) := by decide +kernel
theorem dX5_mixSpaces_33 : decode cX5_mixSpaces 33 = .ok (.i2l, 1) := by decide +kernel
theorem dX5_mixSpaces_34 : decode cX5_mixSpaces 34 = .ok (.invokestatic 152, 3) := by decide +kernel
theorem dX5_mixSpaces_37 : decode cX5_mixSpaces 37 = .ok (.lstore_n 3, 1) := by decide +kernel
theorem dX5_mixSpaces_38 : decode cX5_mixSpaces 38 = .ok (.iinc 6 1, 3) := by decide +kernel
theorem dX5_mixSpaces_41 : decode cX5_mixSpaces 41 = .ok (.goto (-26), 3) := by decide +kernel
theorem dX5_mixSpaces_44 : decode cX5_mixSpaces 44 = .ok (.iinc 5 1, 3) := by decide +kernel
theorem dX5_mixSpaces_47 : decode cX5_mixSpaces 47 = .ok (.goto (-42), 3) := by decide +kernel
theorem dX5_mixSpaces_50 : decode cX5_mixSpaces 50 = .ok (.lload_n 3, 1) := by decide +kernel
theorem dX5_mixSpaces_51 : decode cX5_mixSpaces 51 = .ok (.lreturn, 1) := by decide +kernel
theorem dX5_mixHistory_0 : decode cX5_mixHistory 0 = .ok (.lload_n 1, 1) := by decide +kernel
theorem dX5_mixHistory_1 : decode cX5_mixHistory 1 = .ok (.aload_n 0, 1) := by decide +kernel
theorem dX5_mixHistory_2 : decode cX5_mixHistory 2 = .ok (.getfield 10, 3) := by decide +kernel
theorem dX5_mixHistory_5 : decode cX5_mixHistory 5 = .ok (.getfield 135, 3) := by decide +kernel
theorem dX5_mixHistory_8 : decode cX5_mixHistory 8 = .ok (.getfield 139, 3) := by decide +kernel
theorem dX5_mixHistory_11 : decode cX5_mixHistory 11 = .ok (.i2l, 1) := by decide +kernel
theorem dX5_mixHistory_12 : decode cX5_mixHistory 12 = .ok (.invokestatic 152, 3) := by decide +kernel
theorem dX5_mixHistory_15 : decode cX5_mixHistory 15 = .ok (.lstore_n 3, 1) := by decide +kernel
theorem dX5_mixHistory_16 : decode cX5_mixHistory 16 = .ok (.iconst 0, 1) := by decide +kernel
theorem dX5_mixHistory_17 : decode cX5_mixHistory 17 = .ok (.istore 5, 2) := by decide +kernel
theorem dX5_mixHistory_19 : decode cX5_mixHistory 19 = .ok (.iload 5, 2) := by decide +kernel
theorem dX5_mixHistory_21 : decode cX5_mixHistory 21 = .ok (.aload_n 0, 1) := by decide +kernel
theorem dX5_mixHistory_22 : decode cX5_mixHistory 22 = .ok (.getfield 10, 3) := by decide +kernel
theorem dX5_mixHistory_25 : decode cX5_mixHistory 25 = .ok (.getfield 135, 3) := by decide +kernel
theorem dX5_mixHistory_28 : decode cX5_mixHistory 28 = .ok (.getfield 139, 3) := by decide +kernel
theorem dX5_mixHistory_31 : decode cX5_mixHistory 31 = .ok (.if_icmp .ge 44, 3) := by decide +kernel

theorem dX0_init_0 : decode cX0_init 0 = .ok (.aload_n 0, 1) := by decide +kernel
theorem dX0_init_1 : decode cX0_init 1 = .ok (.invokespecial 3, 3) := by decide +kernel
theorem dX0_init_4 : decode cX0_init 4 = .ok (.aload_n 0, 1) := by decide +kernel
theorem dX0_init_5 : decode cX0_init 5 = .ok (.iconst 4, 1) := by decide +kernel
theorem dX0_init_6 : decode cX0_init 6 = .ok (.anewarray 9, 3) := by decide +kernel
theorem dX0_init_9 : decode cX0_init 9 = .ok (.putfield 11, 3) := by decide +kernel
theorem dX0_init_12 : decode cX0_init 12 = .ok (.aload_n 0, 1) := by decide +kernel
theorem dX0_init_13 : decode cX0_init 13 = .ok (.bipush 12, 2) := by decide +kernel
theorem dX0_init_15 : decode cX0_init 15 = .ok (.newarray .int, 2) := by decide +kernel
theorem dX0_init_17 : decode cX0_init 17 = .ok (.putfield 17, 3) := by decide +kernel
theorem dX0_init_20 : decode cX0_init 20 = .ok (.aload_n 0, 1) := by decide +kernel
theorem dX0_init_21 : decode cX0_init 21 = .ok (.bipush 12, 2) := by decide +kernel
theorem dX0_init_23 : decode cX0_init 23 = .ok (.newarray .int, 2) := by decide +kernel
theorem dX0_init_25 : decode cX0_init 25 = .ok (.putfield 21, 3) := by decide +kernel
theorem dX0_init_28 : decode cX0_init 28 = .ok (.aload_n 0, 1) := by decide +kernel
theorem dX0_init_29 : decode cX0_init 29 = .ok (.bipush 12, 2) := by decide +kernel
theorem dX0_init_31 : decode cX0_init 31 = .ok (.newarray .int, 2) := by decide +kernel
theorem dX0_init_33 : decode cX0_init 33 = .ok (.putfield 24, 3) := by decide +kernel
theorem dX0_init_36 : decode cX0_init 36 = .ok (.aload_n 0, 1) := by decide +kernel
theorem dX0_init_37 : decode cX0_init 37 = .ok (.new 27, 3) := by decide +kernel
theorem dX0_init_40 : decode cX0_init 40 = .ok (.dup, 1) := by decide +kernel
theorem dX0_init_41 : decode cX0_init 41 = .ok (.invokespecial 29, 3) := by decide +kernel
theorem dX0_init_44 : decode cX0_init 44 = .ok (.putfield 30, 3) := by decide +kernel
theorem dX0_init_47 : decode cX0_init 47 = .ok (.iconst 0, 1) := by decide +kernel
theorem dX0_init_48 : decode cX0_init 48 = .ok (.istore_n 1, 1) := by decide +kernel
theorem dX0_init_49 : decode cX0_init 49 = .ok (.iload_n 1, 1) := by decide +kernel
theorem dX0_init_50 : decode cX0_init 50 = .ok (.iconst 4, 1) := by decide +kernel
theorem dX0_init_51 : decode cX0_init 51 = .ok (.if_icmp .ge 22, 3) := by decide +kernel
theorem dX0_init_54 : decode cX0_init 54 = .ok (.aload_n 0, 1) := by decide +kernel
theorem dX0_init_55 : decode cX0_init 55 = .ok (.getfield 11, 3) := by decide +kernel
theorem dX0_init_58 : decode cX0_init 58 = .ok (.iload_n 1, 1) := by decide +kernel
theorem dX0_init_59 : decode cX0_init 59 = .ok (.new 9, 3) := by decide +kernel
theorem dX0_init_62 : decode cX0_init 62 = .ok (.dup, 1) := by decide +kernel
theorem dX0_init_63 : decode cX0_init 63 = .ok (.invokespecial 34, 3) := by decide +kernel
theorem dX0_init_66 : decode cX0_init 66 = .ok (.aastore, 1) := by decide +kernel
theorem dX0_init_67 : decode cX0_init 67 = .ok (.iinc 1 1, 3) := by decide +kernel
theorem dX0_init_70 : decode cX0_init 70 = .ok (.goto (-21), 3) := by decide +kernel
theorem dX0_init_73 : decode cX0_init 73 = .ok (.return_, 1) := by decide +kernel
theorem dX0_begin_0 : decode cX0_begin 0 = .ok (.aload_n 0, 1) := by decide +kernel
theorem dX0_begin_1 : decode cX0_begin 1 = .ok (.iload_n 1, 1) := by decide +kernel
theorem dX0_begin_2 : decode cX0_begin 2 = .ok (.putfield 35, 3) := by decide +kernel
theorem dX0_begin_5 : decode cX0_begin 5 = .ok (.aload_n 0, 1) := by decide +kernel
theorem dX0_begin_6 : decode cX0_begin 6 = .ok (.iload_n 2, 1) := by decide +kernel
theorem dX0_begin_7 : decode cX0_begin 7 = .ok (.putfield 39, 3) := by decide +kernel
theorem dX0_begin_10 : decode cX0_begin 10 = .ok (.aload_n 0, 1) := by decide +kernel
theorem dX0_begin_11 : decode cX0_begin 11 = .ok (.iconst 1, 1) := by decide +kernel
theorem dX0_begin_12 : decode cX0_begin 12 = .ok (.putfield 42, 3) := by decide +kernel
theorem dX0_begin_15 : decode cX0_begin 15 = .ok (.aload_n 0, 1) := by decide +kernel
theorem dX0_begin_16 : decode cX0_begin 16 = .ok (.iconst 0, 1) := by decide +kernel
theorem dX0_begin_17 : decode cX0_begin 17 = .ok (.putfield 45, 3) := by decide +kernel
theorem dX0_begin_20 : decode cX0_begin 20 = .ok (.aload_n 0, 1) := by decide +kernel
theorem dX0_begin_21 : decode cX0_begin 21 = .ok (.getfield 30, 3) := by decide +kernel
theorem dX0_begin_24 : decode cX0_begin 24 = .ok (.invokevirtual 48, 3) := by decide +kernel
theorem dX0_begin_27 : decode cX0_begin 27 = .ok (.iconst 0, 1) := by decide +kernel
theorem dX0_begin_28 : decode cX0_begin 28 = .ok (.istore_n 3, 1) := by decide +kernel
theorem dX0_begin_29 : decode cX0_begin 29 = .ok (.iload_n 3, 1) := by decide +kernel
theorem dX0_begin_30 : decode cX0_begin 30 = .ok (.iconst 4, 1) := by decide +kernel
theorem dX0_begin_31 : decode cX0_begin 31 = .ok (.if_icmp .ge 27, 3) := by decide +kernel
theorem dX0_begin_34 : decode cX0_begin 34 = .ok (.aload_n 0, 1) := by decide +kernel
theorem dX0_begin_35 : decode cX0_begin 35 = .ok (.getfield 11, 3) := by decide +kernel
theorem dX0_begin_38 : decode cX0_begin 38 = .ok (.iload_n 3, 1) := by decide +kernel
theorem dX0_begin_39 : decode cX0_begin 39 = .ok (.aaload, 1) := by decide +kernel
theorem dX0_begin_40 : decode cX0_begin 40 = .ok (.iload_n 3, 1) := by decide +kernel
theorem dX0_begin_41 : decode cX0_begin 41 = .ok (.ifCond .ne 7, 3) := by decide +kernel
theorem dX0_begin_44 : decode cX0_begin 44 = .ok (.iconst 2, 1) := by decide +kernel
theorem dX0_begin_45 : decode cX0_begin 45 = .ok (.goto 4, 3) := by decide +kernel
theorem dX0_begin_48 : decode cX0_begin 48 = .ok (.iconst 3, 1) := by decide +kernel
theorem dX0_begin_49 : decode cX0_begin 49 = .ok (.invokevirtual 51, 3) := by decide +kernel
theorem dX0_begin_52 : decode cX0_begin 52 = .ok (.iinc 3 1, 3) := by decide +kernel
theorem dX0_begin_55 : decode cX0_begin 55 = .ok (.goto (-26), 3) := by decide +kernel
theorem dX0_begin_58 : decode cX0_begin 58 = .ok (.iconst 0, 1) := by decide +kernel
theorem dX0_begin_59 : decode cX0_begin 59 = .ok (.istore_n 3, 1) := by decide +kernel
theorem dX0_begin_60 : decode cX0_begin 60 = .ok (.iload_n 3, 1) := by decide +kernel
theorem dX0_begin_61 : decode cX0_begin 61 = .ok (.bipush 12, 2) := by decide +kernel
theorem dX0_begin_63 : decode cX0_begin 63 = .ok (.if_icmp .ge 16, 3) := by decide +kernel
theorem dX0_begin_66 : decode cX0_begin 66 = .ok (.aload_n 0, 1) := by decide +kernel
theorem dX0_begin_67 : decode cX0_begin 67 = .ok (.getfield 17, 3) := by decide +kernel
theorem dX0_begin_70 : decode cX0_begin 70 = .ok (.iload_n 3, 1) := by decide +kernel
theorem dX0_begin_71 : decode cX0_begin 71 = .ok (.iconst 0, 1) := by decide +kernel
theorem dX0_begin_72 : decode cX0_begin 72 = .ok (.iastore, 1) := by decide +kernel
theorem dX0_begin_73 : decode cX0_begin 73 = .ok (.iinc 3 1, 3) := by decide +kernel
theorem dX0_begin_76 : decode cX0_begin 76 = .ok (.goto (-16), 3) := by decide +kernel
theorem dX0_begin_79 : decode cX0_begin 79 = .ok (.aload_n 0, 1) := by decide +kernel
theorem dX0_begin_80 : decode cX0_begin 80 = .ok (.invokevirtual 55, 3) := by decide +kernel
theorem dX0_begin_83 : decode cX0_begin 83 = .ok (.return_, 1) := by decide +kernel
theorem dX0_copyFrom_0 : decode cX0_copyFrom 0 = .ok (.aload_n 0, 1) := by decide +kernel
theorem dX0_copyFrom_1 : decode cX0_copyFrom 1 = .ok (.aload_n 1, 1) := by decide +kernel
theorem dX0_copyFrom_2 : decode cX0_copyFrom 2 = .ok (.getfield 35, 3) := by decide +kernel
theorem dX0_copyFrom_5 : decode cX0_copyFrom 5 = .ok (.putfield 35, 3) := by decide +kernel
theorem dX0_copyFrom_8 : decode cX0_copyFrom 8 = .ok (.aload_n 0, 1) := by decide +kernel
theorem dX0_copyFrom_9 : decode cX0_copyFrom 9 = .ok (.aload_n 1, 1) := by decide +kernel
theorem dX0_copyFrom_10 : decode cX0_copyFrom 10 = .ok (.getfield 39, 3) := by decide +kernel
theorem dX0_copyFrom_13 : decode cX0_copyFrom 13 = .ok (.putfield 39, 3) := by decide +kernel
theorem dX0_copyFrom_16 : decode cX0_copyFrom 16 = .ok (.aload_n 0, 1) := by decide +kernel
theorem dX0_copyFrom_17 : decode cX0_copyFrom 17 = .ok (.aload_n 1, 1) := by decide +kernel
theorem dX0_copyFrom_18 : decode cX0_copyFrom 18 = .ok (.getfield 42, 3) := by decide +kernel
theorem dX0_copyFrom_21 : decode cX0_copyFrom 21 = .ok (.putfield 42, 3) := by decide +kernel
theorem dX0_copyFrom_24 : decode cX0_copyFrom 24 = .ok (.aload_n 0, 1) := by decide +kernel
theorem dX0_copyFrom_25 : decode cX0_copyFrom 25 = .ok (.aload_n 1, 1) := by decide +kernel
theorem dX0_copyFrom_26 : decode cX0_copyFrom 26 = .ok (.getfield 58, 3) := by decide +kernel
theorem dX0_copyFrom_29 : decode cX0_copyFrom 29 = .ok (.putfield 58, 3) := by decide +kernel
theorem dX0_copyFrom_32 : decode cX0_copyFrom 32 = .ok (.aload_n 0, 1) := by decide +kernel
theorem dX0_copyFrom_33 : decode cX0_copyFrom 33 = .ok (.aload_n 1, 1) := by decide +kernel
theorem dX0_copyFrom_34 : decode cX0_copyFrom 34 = .ok (.getfield 45, 3) := by decide +kernel
theorem dX0_copyFrom_37 : decode cX0_copyFrom 37 = .ok (.putfield 45, 3) := by decide +kernel
theorem dX0_copyFrom_40 : decode cX0_copyFrom 40 = .ok (.iconst 0, 1) := by decide +kernel
theorem dX0_copyFrom_41 : decode cX0_copyFrom 41 = .ok (.istore_n 2, 1) := by decide +kernel
theorem dX0_copyFrom_42 : decode cX0_copyFrom 42 = .ok (.iload_n 2, 1) := by decide +kernel
theorem dX0_copyFrom_43 : decode cX0_copyFrom 43 = .ok (.iconst 4, 1) := by decide +kernel
theorem dX0_copyFrom_44 : decode cX0_copyFrom 44 = .ok (.if_icmp .ge 24, 3) := by decide +kernel
theorem dX0_copyFrom_47 : decode cX0_copyFrom 47 = .ok (.aload_n 0, 1) := by decide +kernel
theorem dX0_copyFrom_48 : decode cX0_copyFrom 48 = .ok (.getfield 11, 3) := by decide +kernel
theorem dX0_copyFrom_51 : decode cX0_copyFrom 51 = .ok (.iload_n 2, 1) := by decide +kernel
theorem dX0_copyFrom_52 : decode cX0_copyFrom 52 = .ok (.aaload, 1) := by decide +kernel
theorem dX0_copyFrom_53 : decode cX0_copyFrom 53 = .ok (.aload_n 1, 1) := by decide +kernel
theorem dX0_copyFrom_54 : decode cX0_copyFrom 54 = .ok (.getfield 11, 3) := by decide +kernel
theorem dX0_copyFrom_57 : decode cX0_copyFrom 57 = .ok (.iload_n 2, 1) := by decide +kernel
theorem dX0_copyFrom_58 : decode cX0_copyFrom 58 = .ok (.aaload, 1) := by decide +kernel
theorem dX0_copyFrom_59 : decode cX0_copyFrom 59 = .ok (.invokevirtual 61, 3) := by decide +kernel
theorem dX0_copyFrom_62 : decode cX0_copyFrom 62 = .ok (.iinc 2 1, 3) := by decide +kernel
theorem dX0_copyFrom_65 : decode cX0_copyFrom 65 = .ok (.goto (-23), 3) := by decide +kernel
theorem dX0_copyFrom_68 : decode cX0_copyFrom 68 = .ok (.aload_n 1, 1) := by decide +kernel
theorem dX0_copyFrom_69 : decode cX0_copyFrom 69 = .ok (.getfield 17, 3) := by decide +kernel
theorem dX0_copyFrom_72 : decode cX0_copyFrom 72 = .ok (.iconst 0, 1) := by decide +kernel
theorem dX0_copyFrom_73 : decode cX0_copyFrom 73 = .ok (.aload_n 0, 1) := by decide +kernel
theorem dX0_copyFrom_74 : decode cX0_copyFrom 74 = .ok (.getfield 17, 3) := by decide +kernel
theorem dX0_copyFrom_77 : decode cX0_copyFrom 77 = .ok (.iconst 0, 1) := by decide +kernel
theorem dX0_copyFrom_78 : decode cX0_copyFrom 78 = .ok (.bipush 12, 2) := by decide +kernel
theorem dX0_copyFrom_80 : decode cX0_copyFrom 80 = .ok (.invokestatic 65, 3) := by decide +kernel
theorem dX0_copyFrom_83 : decode cX0_copyFrom 83 = .ok (.aload_n 1, 1) := by decide +kernel
theorem dX0_copyFrom_84 : decode cX0_copyFrom 84 = .ok (.getfield 21, 3) := by decide +kernel
theorem dX0_copyFrom_87 : decode cX0_copyFrom 87 = .ok (.iconst 0, 1) := by decide +kernel
theorem dX0_copyFrom_88 : decode cX0_copyFrom 88 = .ok (.aload_n 0, 1) := by decide +kernel
theorem dX0_copyFrom_89 : decode cX0_copyFrom 89 = .ok (.getfield 21, 3) := by decide +kernel
theorem dX0_copyFrom_92 : decode cX0_copyFrom 92 = .ok (.iconst 0, 1) := by decide +kernel
theorem dX0_copyFrom_93 : decode cX0_copyFrom 93 = .ok (.bipush 12, 2) := by decide +kernel
theorem dX0_copyFrom_95 : decode cX0_copyFrom 95 = .ok (.invokestatic 65, 3) := by decide +kernel
theorem dX0_copyFrom_98 : decode cX0_copyFrom 98 = .ok (.aload_n 1, 1) := by decide +kernel
theorem dX0_copyFrom_99 : decode cX0_copyFrom 99 = .ok (.getfield 24, 3) := by decide +kernel
theorem dX0_copyFrom_102 : decode cX0_copyFrom 102 = .ok (.iconst 0, 1) := by decide +kernel
theorem dX0_copyFrom_103 : decode cX0_copyFrom 103 = .ok (.aload_n 0, 1) := by decide +kernel
theorem dX0_copyFrom_104 : decode cX0_copyFrom 104 = .ok (.getfield 24, 3) := by decide +kernel
theorem dX0_copyFrom_107 : decode cX0_copyFrom 107 = .ok (.iconst 0, 1) := by decide +kernel
theorem dX0_copyFrom_108 : decode cX0_copyFrom 108 = .ok (.bipush 12, 2) := by decide +kernel
theorem dX0_copyFrom_110 : decode cX0_copyFrom 110 = .ok (.invokestatic 65, 3) := by decide +kernel
theorem dX0_copyFrom_113 : decode cX0_copyFrom 113 = .ok (.aload_n 0, 1) := by decide +kernel
theorem dX0_copyFrom_114 : decode cX0_copyFrom 114 = .ok (.getfield 30, 3) := by decide +kernel
theorem dX0_copyFrom_117 : decode cX0_copyFrom 117 = .ok (.aload_n 1, 1) := by decide +kernel
theorem dX0_copyFrom_118 : decode cX0_copyFrom 118 = .ok (.getfield 30, 3) := by decide +kernel
theorem dX0_copyFrom_121 : decode cX0_copyFrom 121 = .ok (.invokevirtual 71, 3) := by decide +kernel
theorem dX0_copyFrom_124 : decode cX0_copyFrom 124 = .ok (.return_, 1) := by decide +kernel
theorem dX0_isOver_0 : decode cX0_isOver 0 = .ok (.aload_n 0, 1) := by decide +kernel
theorem dX0_isOver_1 : decode cX0_isOver 1 = .ok (.getfield 58, 3) := by decide +kernel
theorem dX0_isOver_4 : decode cX0_isOver 4 = .ok (.iconst (-1), 1) := by decide +kernel
theorem dX0_isOver_5 : decode cX0_isOver 5 = .ok (.if_icmp .ne 7, 3) := by decide +kernel
theorem dX0_isOver_8 : decode cX0_isOver 8 = .ok (.iconst 1, 1) := by decide +kernel
theorem dX0_isOver_9 : decode cX0_isOver 9 = .ok (.goto 4, 3) := by decide +kernel
theorem dX0_isOver_12 : decode cX0_isOver 12 = .ok (.iconst 0, 1) := by decide +kernel
theorem dX0_isOver_13 : decode cX0_isOver 13 = .ok (.ireturn, 1) := by decide +kernel
theorem dX0_feedsAtEnd_0 : decode cX0_feedsAtEnd 0 = .ok (.aload_n 0, 1) := by decide +kernel
theorem dX0_feedsAtEnd_1 : decode cX0_feedsAtEnd 1 = .ok (.getfield 42, 3) := by decide +kernel
theorem dX0_feedsAtEnd_4 : decode cX0_feedsAtEnd 4 = .ok (.iconst 2, 1) := by decide +kernel
theorem dX0_feedsAtEnd_5 : decode cX0_feedsAtEnd 5 = .ok (.irem, 1) := by decide +kernel
theorem dX0_feedsAtEnd_6 : decode cX0_feedsAtEnd 6 = .ok (.ifCond .eq 14, 3) := by decide +kernel
theorem dX0_feedsAtEnd_9 : decode cX0_feedsAtEnd 9 = .ok (.aload_n 0, 1) := by decide +kernel
theorem dX0_feedsAtEnd_10 : decode cX0_feedsAtEnd 10 = .ok (.getfield 42, 3) := by decide +kernel
theorem dX0_feedsAtEnd_13 : decode cX0_feedsAtEnd 13 = .ok (.aload_n 0, 1) := by decide +kernel
theorem dX0_feedsAtEnd_14 : decode cX0_feedsAtEnd 14 = .ok (.getfield 39, 3) := by decide +kernel
theorem dX0_feedsAtEnd_17 : decode cX0_feedsAtEnd 17 = .ok (.if_icmp .ne 7, 3) := by decide +kernel
theorem dX0_feedsAtEnd_20 : decode cX0_feedsAtEnd 20 = .ok (.iconst 1, 1) := by decide +kernel
theorem dX0_feedsAtEnd_21 : decode cX0_feedsAtEnd 21 = .ok (.goto 4, 3) := by decide +kernel
theorem dX0_feedsAtEnd_24 : decode cX0_feedsAtEnd 24 = .ok (.iconst 0, 1) := by decide +kernel
theorem dX0_feedsAtEnd_25 : decode cX0_feedsAtEnd 25 = .ok (.ireturn, 1) := by decide +kernel
theorem dX0_startRound_0 : decode cX0_startRound 0 = .ok (.iconst 0, 1) := by decide +kernel
theorem dX0_startRound_1 : decode cX0_startRound 1 = .ok (.istore_n 1, 1) := by decide +kernel
theorem dX0_startRound_2 : decode cX0_startRound 2 = .ok (.iload_n 1, 1) := by decide +kernel
theorem dX0_startRound_3 : decode cX0_startRound 3 = .ok (.bipush 12, 2) := by decide +kernel
theorem dX0_startRound_5 : decode cX0_startRound 5 = .ok (.if_icmp .ge 37, 3) := by decide +kernel
theorem dX0_startRound_8 : decode cX0_startRound 8 = .ok (.aload_n 0, 1) := by decide +kernel
theorem dX0_startRound_9 : decode cX0_startRound 9 = .ok (.getfield 17, 3) := by decide +kernel
theorem dX0_startRound_12 : decode cX0_startRound 12 = .ok (.iload_n 1, 1) := by decide +kernel
theorem dX0_startRound_13 : decode cX0_startRound 13 = .ok (.dup2, 1) := by decide +kernel
theorem dX0_startRound_14 : decode cX0_startRound 14 = .ok (.iaload, 1) := by decide +kernel
theorem dX0_startRound_15 : decode cX0_startRound 15 = .ok (.getstatic 74, 3) := by decide +kernel
theorem dX0_startRound_18 : decode cX0_startRound 18 = .ok (.iload_n 1, 1) := by decide +kernel
theorem dX0_startRound_19 : decode cX0_startRound 19 = .ok (.iaload, 1) := by decide +kernel
theorem dX0_startRound_20 : decode cX0_startRound 20 = .ok (.iadd, 1) := by decide +kernel
theorem dX0_startRound_21 : decode cX0_startRound 21 = .ok (.iastore, 1) := by decide +kernel
theorem dX0_startRound_22 : decode cX0_startRound 22 = .ok (.aload_n 0, 1) := by decide +kernel
theorem dX0_startRound_23 : decode cX0_startRound 23 = .ok (.getfield 21, 3) := by decide +kernel
theorem dX0_startRound_26 : decode cX0_startRound 26 = .ok (.iload_n 1, 1) := by decide +kernel
theorem dX0_startRound_27 : decode cX0_startRound 27 = .ok (.iconst 0, 1) := by decide +kernel
theorem dX0_startRound_28 : decode cX0_startRound 28 = .ok (.iastore, 1) := by decide +kernel
theorem dX0_startRound_29 : decode cX0_startRound 29 = .ok (.aload_n 0, 1) := by decide +kernel
theorem dX0_startRound_30 : decode cX0_startRound 30 = .ok (.getfield 24, 3) := by decide +kernel
theorem dX0_startRound_33 : decode cX0_startRound 33 = .ok (.iload_n 1, 1) := by decide +kernel
theorem dX0_startRound_34 : decode cX0_startRound 34 = .ok (.iconst (-1), 1) := by decide +kernel
theorem dX0_startRound_35 : decode cX0_startRound 35 = .ok (.iastore, 1) := by decide +kernel
theorem dX0_startRound_36 : decode cX0_startRound 36 = .ok (.iinc 1 1, 3) := by decide +kernel
theorem dX0_startRound_39 : decode cX0_startRound 39 = .ok (.goto (-37), 3) := by decide +kernel
theorem dX0_startRound_42 : decode cX0_startRound 42 = .ok (.iconst 0, 1) := by decide +kernel
theorem dX0_startRound_43 : decode cX0_startRound 43 = .ok (.istore_n 1, 1) := by decide +kernel
theorem dX0_startRound_44 : decode cX0_startRound 44 = .ok (.iload_n 1, 1) := by decide +kernel
theorem dX0_startRound_45 : decode cX0_startRound 45 = .ok (.aload_n 0, 1) := by decide +kernel
theorem dX0_startRound_46 : decode cX0_startRound 46 = .ok (.getfield 35, 3) := by decide +kernel
theorem dX0_startRound_49 : decode cX0_startRound 49 = .ok (.if_icmp .ge 18, 3) := by decide +kernel
theorem dX0_startRound_52 : decode cX0_startRound 52 = .ok (.aload_n 0, 1) := by decide +kernel
theorem dX0_startRound_53 : decode cX0_startRound 53 = .ok (.getfield 11, 3) := by decide +kernel
theorem dX0_startRound_56 : decode cX0_startRound 56 = .ok (.iload_n 1, 1) := by decide +kernel
theorem dX0_startRound_57 : decode cX0_startRound 57 = .ok (.aaload, 1) := by decide +kernel
theorem dX0_startRound_58 : decode cX0_startRound 58 = .ok (.invokevirtual 77, 3) := by decide +kernel
theorem dX0_startRound_61 : decode cX0_startRound 61 = .ok (.iinc 1 1, 3) := by decide +kernel
theorem dX0_startRound_64 : decode cX0_startRound 64 = .ok (.goto (-20), 3) := by decide +kernel
theorem dX0_startRound_67 : decode cX0_startRound 67 = .ok (.aload_n 0, 1) := by decide +kernel
theorem dX0_startRound_68 : decode cX0_startRound 68 = .ok (.aload_n 0, 1) := by decide +kernel
theorem dX0_startRound_69 : decode cX0_startRound 69 = .ok (.getfield 45, 3) := by decide +kernel
theorem dX0_startRound_72 : decode cX0_startRound 72 = .ok (.putfield 58, 3) := by decide +kernel
theorem dX0_startRound_75 : decode cX0_startRound 75 = .ok (.return_, 1) := by decide +kernel
theorem dX0_endRound_0 : decode cX0_endRound 0 = .ok (.aload_n 0, 1) := by decide +kernel
theorem dX0_endRound_1 : decode cX0_endRound 1 = .ok (.invokevirtual 78, 3) := by decide +kernel
theorem dX0_endRound_4 : decode cX0_endRound 4 = .ok (.istore_n 1, 1) := by decide +kernel
theorem dX0_endRound_5 : decode cX0_endRound 5 = .ok (.iconst 0, 1) := by decide +kernel
theorem dX0_endRound_6 : decode cX0_endRound 6 = .ok (.istore_n 2, 1) := by decide +kernel
theorem dX0_endRound_7 : decode cX0_endRound 7 = .ok (.iload_n 2, 1) := by decide +kernel
theorem dX0_endRound_8 : decode cX0_endRound 8 = .ok (.aload_n 0, 1) := by decide +kernel
theorem dX0_endRound_9 : decode cX0_endRound 9 = .ok (.getfield 35, 3) := by decide +kernel
theorem dX0_endRound_12 : decode cX0_endRound 12 = .ok (.if_icmp .ge 19, 3) := by decide +kernel
theorem dX0_endRound_15 : decode cX0_endRound 15 = .ok (.aload_n 0, 1) := by decide +kernel
theorem dX0_endRound_16 : decode cX0_endRound 16 = .ok (.getfield 11, 3) := by decide +kernel
theorem dX0_endRound_19 : decode cX0_endRound 19 = .ok (.iload_n 2, 1) := by decide +kernel
theorem dX0_endRound_20 : decode cX0_endRound 20 = .ok (.aaload, 1) := by decide +kernel
theorem dX0_endRound_21 : decode cX0_endRound 21 = .ok (.iload_n 1, 1) := by decide +kernel
theorem dX0_endRound_22 : decode cX0_endRound 22 = .ok (.invokevirtual 82, 3) := by decide +kernel
theorem dX0_endRound_25 : decode cX0_endRound 25 = .ok (.iinc 2 1, 3) := by decide +kernel
theorem dX0_endRound_28 : decode cX0_endRound 28 = .ok (.goto (-21), 3) := by decide +kernel
theorem dX0_endRound_31 : decode cX0_endRound 31 = .ok (.aload_n 0, 1) := by decide +kernel
theorem dX0_endRound_32 : decode cX0_endRound 32 = .ok (.dup, 1) := by decide +kernel
theorem dX0_endRound_33 : decode cX0_endRound 33 = .ok (.getfield 42, 3) := by decide +kernel
theorem dX0_endRound_36 : decode cX0_endRound 36 = .ok (.iconst 1, 1) := by decide +kernel
theorem dX0_endRound_37 : decode cX0_endRound 37 = .ok (.iadd, 1) := by decide +kernel
theorem dX0_endRound_38 : decode cX0_endRound 38 = .ok (.putfield 42, 3) := by decide +kernel
theorem dX0_endRound_41 : decode cX0_endRound 41 = .ok (.aload_n 0, 1) := by decide +kernel
theorem dX0_endRound_42 : decode cX0_endRound 42 = .ok (.getfield 42, 3) := by decide +kernel
theorem dX0_endRound_45 : decode cX0_endRound 45 = .ok (.aload_n 0, 1) := by decide +kernel
theorem dX0_endRound_46 : decode cX0_endRound 46 = .ok (.getfield 39, 3) := by decide +kernel
theorem dX0_endRound_49 : decode cX0_endRound 49 = .ok (.if_icmp .le 11, 3) := by decide +kernel
theorem dX0_endRound_52 : decode cX0_endRound 52 = .ok (.aload_n 0, 1) := by decide +kernel
theorem dX0_endRound_53 : decode cX0_endRound 53 = .ok (.iconst (-1), 1) := by decide +kernel
theorem dX0_endRound_54 : decode cX0_endRound 54 = .ok (.putfield 58, 3) := by decide +kernel
theorem dX0_endRound_57 : decode cX0_endRound 57 = .ok (.goto 7, 3) := by decide +kernel
theorem dX0_endRound_60 : decode cX0_endRound 60 = .ok (.aload_n 0, 1) := by decide +kernel
theorem dX0_endRound_61 : decode cX0_endRound 61 = .ok (.invokevirtual 55, 3) := by decide +kernel
theorem dX0_endRound_64 : decode cX0_endRound 64 = .ok (.return_, 1) := by decide +kernel
theorem dX0_passTurn_0 : decode cX0_passTurn 0 = .ok (.iconst 1, 1) := by decide +kernel
theorem dX0_passTurn_1 : decode cX0_passTurn 1 = .ok (.istore_n 1, 1) := by decide +kernel
theorem dX0_passTurn_2 : decode cX0_passTurn 2 = .ok (.iload_n 1, 1) := by decide +kernel
theorem dX0_passTurn_3 : decode cX0_passTurn 3 = .ok (.aload_n 0, 1) := by decide +kernel
theorem dX0_passTurn_4 : decode cX0_passTurn 4 = .ok (.getfield 35, 3) := by decide +kernel
theorem dX0_passTurn_7 : decode cX0_passTurn 7 = .ok (.if_icmp .gt 49, 3) := by decide +kernel
theorem dX0_passTurn_10 : decode cX0_passTurn 10 = .ok (.aload_n 0, 1) := by decide +kernel
theorem dX0_passTurn_11 : decode cX0_passTurn 11 = .ok (.getfield 58, 3) := by decide +kernel
theorem dX0_passTurn_14 : decode cX0_passTurn 14 = .ok (.iload_n 1, 1) := by decide +kernel
theorem dX0_passTurn_15 : decode cX0_passTurn 15 = .ok (.iadd, 1) := by decide +kernel
theorem dX0_passTurn_16 : decode cX0_passTurn 16 = .ok (.istore_n 2, 1) := by decide +kernel
theorem dX0_passTurn_17 : decode cX0_passTurn 17 = .ok (.iload_n 2, 1) := by decide +kernel
theorem dX0_passTurn_18 : decode cX0_passTurn 18 = .ok (.aload_n 0, 1) := by decide +kernel
theorem dX0_passTurn_19 : decode cX0_passTurn 19 = .ok (.getfield 35, 3) := by decide +kernel
theorem dX0_passTurn_22 : decode cX0_passTurn 22 = .ok (.if_icmp .lt 10, 3) := by decide +kernel
theorem dX0_passTurn_25 : decode cX0_passTurn 25 = .ok (.iload_n 2, 1) := by decide +kernel
theorem dX0_passTurn_26 : decode cX0_passTurn 26 = .ok (.aload_n 0, 1) := by decide +kernel
theorem dX0_passTurn_27 : decode cX0_passTurn 27 = .ok (.getfield 35, 3) := by decide +kernel
theorem dX0_passTurn_30 : decode cX0_passTurn 30 = .ok (.isub, 1) := by decide +kernel
theorem dX0_passTurn_31 : decode cX0_passTurn 31 = .ok (.istore_n 2, 1) := by decide +kernel
theorem dX0_passTurn_32 : decode cX0_passTurn 32 = .ok (.aload_n 0, 1) := by decide +kernel
theorem dX0_passTurn_33 : decode cX0_passTurn 33 = .ok (.getfield 11, 3) := by decide +kernel
theorem dX0_passTurn_36 : decode cX0_passTurn 36 = .ok (.iload_n 2, 1) := by decide +kernel
theorem dX0_passTurn_37 : decode cX0_passTurn 37 = .ok (.aaload, 1) := by decide +kernel
theorem dX0_passTurn_38 : decode cX0_passTurn 38 = .ok (.getfield 86, 3) := by decide +kernel
theorem dX0_passTurn_41 : decode cX0_passTurn 41 = .ok (.ifCond .le 9, 3) := by decide +kernel
theorem dX0_passTurn_44 : decode cX0_passTurn 44 = .ok (.aload_n 0, 1) := by decide +kernel
theorem dX0_passTurn_45 : decode cX0_passTurn 45 = .ok (.iload_n 2, 1) := by decide +kernel
theorem dX0_passTurn_46 : decode cX0_passTurn 46 = .ok (.putfield 58, 3) := by decide +kernel
theorem dX0_passTurn_49 : decode cX0_passTurn 49 = .ok (.return_, 1) := by decide +kernel
theorem dX0_passTurn_50 : decode cX0_passTurn 50 = .ok (.iinc 1 1, 3) := by decide +kernel
theorem dX0_passTurn_53 : decode cX0_passTurn 53 = .ok (.goto (-51), 3) := by decide +kernel
theorem dX0_passTurn_56 : decode cX0_passTurn 56 = .ok (.aload_n 0, 1) := by decide +kernel
theorem dX0_passTurn_57 : decode cX0_passTurn 57 = .ok (.invokevirtual 89, 3) := by decide +kernel
theorem dX0_passTurn_60 : decode cX0_passTurn 60 = .ok (.return_, 1) := by decide +kernel
theorem dX0_makePlacement_0 : decode cX0_makePlacement 0 = .ok (.aload_n 0, 1) := by decide +kernel
theorem dX0_makePlacement_1 : decode cX0_makePlacement 1 = .ok (.getfield 30, 3) := by decide +kernel
theorem dX0_makePlacement_4 : decode cX0_makePlacement 4 = .ok (.aload_n 0, 1) := by decide +kernel
theorem dX0_makePlacement_5 : decode cX0_makePlacement 5 = .ok (.getfield 42, 3) := by decide +kernel
theorem dX0_makePlacement_8 : decode cX0_makePlacement 8 = .ok (.aload_n 0, 1) := by decide +kernel
theorem dX0_makePlacement_9 : decode cX0_makePlacement 9 = .ok (.getfield 58, 3) := by decide +kernel
theorem dX0_makePlacement_12 : decode cX0_makePlacement 12 = .ok (.iload_n 1, 1) := by decide +kernel
theorem dX0_makePlacement_13 : decode cX0_makePlacement 13 = .ok (.iload_n 2, 1) := by decide +kernel
theorem dX0_makePlacement_14 : decode cX0_makePlacement 14 = .ok (.invokevirtual 91, 3) := by decide +kernel
theorem dX0_makePlacement_17 : decode cX0_makePlacement 17 = .ok (.aload_n 0, 1) := by decide +kernel
theorem dX0_makePlacement_18 : decode cX0_makePlacement 18 = .ok (.aload_n 0, 1) := by decide +kernel
theorem dX0_makePlacement_19 : decode cX0_makePlacement 19 = .ok (.getfield 11, 3) := by decide +kernel
theorem dX0_makePlacement_22 : decode cX0_makePlacement 22 = .ok (.aload_n 0, 1) := by decide +kernel
theorem dX0_makePlacement_23 : decode cX0_makePlacement 23 = .ok (.getfield 58, 3) := by decide +kernel
theorem dX0_makePlacement_26 : decode cX0_makePlacement 26 = .ok (.aaload, 1) := by decide +kernel
theorem dX0_makePlacement_27 : decode cX0_makePlacement 27 = .ok (.iload_n 1, 1) := by decide +kernel
theorem dX0_makePlacement_28 : decode cX0_makePlacement 28 = .ok (.iload_n 2, 1) := by decide +kernel
theorem dX0_makePlacement_29 : decode cX0_makePlacement 29 = .ok (.invokevirtual 95, 3) := by decide +kernel
theorem dX0_makePlacement_32 : decode cX0_makePlacement 32 = .ok (.aload_n 0, 1) := by decide +kernel
theorem dX0_makePlacement_33 : decode cX0_makePlacement 33 = .ok (.iload_n 1, 1) := by decide +kernel
theorem dX0_makePlacement_34 : decode cX0_makePlacement 34 = .ok (.invokevirtual 99, 3) := by decide +kernel
theorem dX0_makePlacement_37 : decode cX0_makePlacement 37 = .ok (.aload_n 0, 1) := by decide +kernel
theorem dX0_makePlacement_38 : decode cX0_makePlacement 38 = .ok (.invokevirtual 102, 3) := by decide +kernel
theorem dX0_makePlacement_41 : decode cX0_makePlacement 41 = .ok (.return_, 1) := by decide +kernel
theorem dX0_makeSkip_0 : decode cX0_makeSkip 0 = .ok (.aload_n 0, 1) := by decide +kernel
theorem dX0_makeSkip_1 : decode cX0_makeSkip 1 = .ok (.getfield 30, 3) := by decide +kernel
theorem dX0_makeSkip_4 : decode cX0_makeSkip 4 = .ok (.aload_n 0, 1) := by decide +kernel
theorem dX0_makeSkip_5 : decode cX0_makeSkip 5 = .ok (.getfield 42, 3) := by decide +kernel
theorem dX0_makeSkip_8 : decode cX0_makeSkip 8 = .ok (.aload_n 0, 1) := by decide +kernel
theorem dX0_makeSkip_9 : decode cX0_makeSkip 9 = .ok (.getfield 58, 3) := by decide +kernel
theorem dX0_makeSkip_12 : decode cX0_makeSkip 12 = .ok (.iconst (-1), 1) := by decide +kernel
theorem dX0_makeSkip_13 : decode cX0_makeSkip 13 = .ok (.iconst 0, 1) := by decide +kernel
theorem dX0_makeSkip_14 : decode cX0_makeSkip 14 = .ok (.invokevirtual 91, 3) := by decide +kernel
theorem dX0_makeSkip_17 : decode cX0_makeSkip 17 = .ok (.aload_n 0, 1) := by decide +kernel
theorem dX0_makeSkip_18 : decode cX0_makeSkip 18 = .ok (.getfield 11, 3) := by decide +kernel
theorem dX0_makeSkip_21 : decode cX0_makeSkip 21 = .ok (.aload_n 0, 1) := by decide +kernel
theorem dX0_makeSkip_22 : decode cX0_makeSkip 22 = .ok (.getfield 58, 3) := by decide +kernel
theorem dX0_makeSkip_25 : decode cX0_makeSkip 25 = .ok (.aaload, 1) := by decide +kernel
theorem dX0_makeSkip_26 : decode cX0_makeSkip 26 = .ok (.iconst 0, 1) := by decide +kernel
theorem dX0_makeSkip_27 : decode cX0_makeSkip 27 = .ok (.putfield 86, 3) := by decide +kernel
theorem dX0_makeSkip_30 : decode cX0_makeSkip 30 = .ok (.aload_n 0, 1) := by decide +kernel
theorem dX0_makeSkip_31 : decode cX0_makeSkip 31 = .ok (.invokevirtual 102, 3) := by decide +kernel
theorem dX0_makeSkip_34 : decode cX0_makeSkip 34 = .ok (.return_, 1) := by decide +kernel
theorem dX0_occupy_0 : decode cX0_occupy 0 = .ok (.aload_n 0, 1) := by decide +kernel
theorem dX0_occupy_1 : decode cX0_occupy 1 = .ok (.getfield 17, 3) := by decide +kernel
theorem dX0_occupy_4 : decode cX0_occupy 4 = .ok (.iload_n 1, 1) := by decide +kernel
theorem dX0_occupy_5 : decode cX0_occupy 5 = .ok (.iconst 0, 1) := by decide +kernel
theorem dX0_occupy_6 : decode cX0_occupy 6 = .ok (.iastore, 1) := by decide +kernel
theorem dX0_occupy_7 : decode cX0_occupy 7 = .ok (.aload_n 0, 1) := by decide +kernel
theorem dX0_occupy_8 : decode cX0_occupy 8 = .ok (.getfield 21, 3) := by decide +kernel
theorem dX0_occupy_11 : decode cX0_occupy 11 = .ok (.iload_n 1, 1) := by decide +kernel
theorem dX0_occupy_12 : decode cX0_occupy 12 = .ok (.dup2, 1) := by decide +kernel
theorem dX0_occupy_13 : decode cX0_occupy 13 = .ok (.iaload, 1) := by decide +kernel
theorem dX0_occupy_14 : decode cX0_occupy 14 = .ok (.iconst 1, 1) := by decide +kernel
theorem dX0_occupy_15 : decode cX0_occupy 15 = .ok (.iadd, 1) := by decide +kernel
theorem dX0_occupy_16 : decode cX0_occupy 16 = .ok (.iastore, 1) := by decide +kernel
theorem dX0_occupy_17 : decode cX0_occupy 17 = .ok (.aload_n 0, 1) := by decide +kernel
theorem dX0_occupy_18 : decode cX0_occupy 18 = .ok (.getfield 24, 3) := by decide +kernel
theorem dX0_occupy_21 : decode cX0_occupy 21 = .ok (.iload_n 1, 1) := by decide +kernel
theorem dX0_occupy_22 : decode cX0_occupy 22 = .ok (.iaload, 1) := by decide +kernel
theorem dX0_occupy_23 : decode cX0_occupy 23 = .ok (.iconst (-1), 1) := by decide +kernel
theorem dX0_occupy_24 : decode cX0_occupy 24 = .ok (.if_icmp .ne 13, 3) := by decide +kernel
theorem dX0_occupy_27 : decode cX0_occupy 27 = .ok (.aload_n 0, 1) := by decide +kernel
theorem dX0_occupy_28 : decode cX0_occupy 28 = .ok (.getfield 24, 3) := by decide +kernel
theorem dX0_occupy_31 : decode cX0_occupy 31 = .ok (.iload_n 1, 1) := by decide +kernel
theorem dX0_occupy_32 : decode cX0_occupy 32 = .ok (.aload_n 0, 1) := by decide +kernel
theorem dX0_occupy_33 : decode cX0_occupy 33 = .ok (.getfield 58, 3) := by decide +kernel
theorem dX0_occupy_36 : decode cX0_occupy 36 = .ok (.iastore, 1) := by decide +kernel
theorem dX0_occupy_37 : decode cX0_occupy 37 = .ok (.iload_n 1, 1) := by decide +kernel
theorem dX0_occupy_38 : decode cX0_occupy 38 = .ok (.bipush 10, 2) := by decide +kernel
theorem dX0_occupy_40 : decode cX0_occupy 40 = .ok (.if_icmp .ne 11, 3) := by decide +kernel
theorem dX0_occupy_43 : decode cX0_occupy 43 = .ok (.aload_n 0, 1) := by decide +kernel
theorem dX0_occupy_44 : decode cX0_occupy 44 = .ok (.aload_n 0, 1) := by decide +kernel
theorem dX0_occupy_45 : decode cX0_occupy 45 = .ok (.getfield 58, 3) := by decide +kernel
theorem dX0_occupy_48 : decode cX0_occupy 48 = .ok (.putfield 45, 3) := by decide +kernel
theorem dX0_occupy_51 : decode cX0_occupy 51 = .ok (.return_, 1) := by decide +kernel
theorem dX0_carryOut_0 : decode cX0_carryOut 0 = .ok (.aload_n 1, 1) := by decide +kernel
theorem dX0_carryOut_1 : decode cX0_carryOut 1 = .ok (.getfield 105, 3) := by decide +kernel
theorem dX0_carryOut_4 : decode cX0_carryOut 4 = .ok (.astore 4, 2) := by decide +kernel
theorem dX0_carryOut_6 : decode cX0_carryOut 6 = .ok (.aload_n 1, 1) := by decide +kernel
theorem dX0_carryOut_7 : decode cX0_carryOut 7 = .ok (.dup, 1) := by decide +kernel
theorem dX0_carryOut_8 : decode cX0_carryOut 8 = .ok (.getfield 86, 3) := by decide +kernel
theorem dX0_carryOut_11 : decode cX0_carryOut 11 = .ok (.iconst 1, 1) := by decide +kernel
theorem dX0_carryOut_12 : decode cX0_carryOut 12 = .ok (.isub, 1) := by decide +kernel
theorem dX0_carryOut_13 : decode cX0_carryOut 13 = .ok (.putfield 86, 3) := by decide +kernel
theorem dX0_carryOut_16 : decode cX0_carryOut 16 = .ok (.iload_n 2, 1) := by decide +kernel
theorem dX0_carryOut_17 : decode cX0_carryOut 17 = .ok (.tableswitch 260 0 11 #[63, 98, 146, 114, 157, 130, 168, 186, 193, 217, 146, 237], 63) := by decide +kernel
theorem dX0_carryOut_80 : decode cX0_carryOut 80 = .ok (.aload 4, 2) := by decide +kernel
theorem dX0_carryOut_82 : decode cX0_carryOut 82 = .ok (.iconst 0, 1) := by decide +kernel
theorem dX0_carryOut_83 : decode cX0_carryOut 83 = .ok (.dup2, 1) := by decide +kernel
theorem dX0_carryOut_84 : decode cX0_carryOut 84 = .ok (.iaload, 1) := by decide +kernel
theorem dX0_carryOut_85 : decode cX0_carryOut 85 = .ok (.aload_n 1, 1) := by decide +kernel
theorem dX0_carryOut_86 : decode cX0_carryOut 86 = .ok (.iconst 1, 1) := by decide +kernel
theorem dX0_carryOut_87 : decode cX0_carryOut 87 = .ok (.invokevirtual 108, 3) := by decide +kernel
theorem dX0_carryOut_90 : decode cX0_carryOut 90 = .ok (.ifCond .eq 14, 3) := by decide +kernel
theorem dX0_carryOut_93 : decode cX0_carryOut 93 = .ok (.aload_n 0, 1) := by decide +kernel
theorem dX0_carryOut_94 : decode cX0_carryOut 94 = .ok (.getfield 17, 3) := by decide +kernel
theorem dX0_carryOut_97 : decode cX0_carryOut 97 = .ok (.iload_n 2, 1) := by decide +kernel
theorem dX0_carryOut_98 : decode cX0_carryOut 98 = .ok (.iaload, 1) := by decide +kernel
theorem dX0_carryOut_99 : decode cX0_carryOut 99 = .ok (.iconst 1, 1) := by decide +kernel
theorem dX0_carryOut_100 : decode cX0_carryOut 100 = .ok (.iadd, 1) := by decide +kernel
theorem dX0_carryOut_101 : decode cX0_carryOut 101 = .ok (.goto 9, 3) := by decide +kernel
theorem dX0_carryOut_104 : decode cX0_carryOut 104 = .ok (.aload_n 0, 1) := by decide +kernel
theorem dX0_carryOut_105 : decode cX0_carryOut 105 = .ok (.getfield 17, 3) := by decide +kernel
theorem dX0_carryOut_108 : decode cX0_carryOut 108 = .ok (.iload_n 2, 1) := by decide +kernel
theorem dX0_carryOut_109 : decode cX0_carryOut 109 = .ok (.iaload, 1) := by decide +kernel
theorem dX0_carryOut_110 : decode cX0_carryOut 110 = .ok (.iadd, 1) := by decide +kernel
theorem dX0_carryOut_111 : decode cX0_carryOut 111 = .ok (.iastore, 1) := by decide +kernel
theorem dX0_carryOut_112 : decode cX0_carryOut 112 = .ok (.goto 165, 3) := by decide +kernel
theorem dX0_carryOut_115 : decode cX0_carryOut 115 = .ok (.aload 4, 2) := by decide +kernel
theorem dX0_carryOut_117 : decode cX0_carryOut 117 = .ok (.iconst 1, 1) := by decide +kernel
theorem dX0_carryOut_118 : decode cX0_carryOut 118 = .ok (.dup2, 1) := by decide +kernel
theorem dX0_carryOut_119 : decode cX0_carryOut 119 = .ok (.iaload, 1) := by decide +kernel
theorem dX0_carryOut_120 : decode cX0_carryOut 120 = .ok (.aload_n 0, 1) := by decide +kernel
theorem dX0_carryOut_121 : decode cX0_carryOut 121 = .ok (.getfield 17, 3) := by decide +kernel
theorem dX0_carryOut_124 : decode cX0_carryOut 124 = .ok (.iload_n 2, 1) := by decide +kernel
theorem dX0_carryOut_125 : decode cX0_carryOut 125 = .ok (.iaload, 1) := by decide +kernel
theorem dX0_carryOut_126 : decode cX0_carryOut 126 = .ok (.iadd, 1) := by decide +kernel
theorem dX0_carryOut_127 : decode cX0_carryOut 127 = .ok (.iastore, 1) := by decide +kernel
theorem dX0_carryOut_128 : decode cX0_carryOut 128 = .ok (.goto 149, 3) := by decide +kernel
theorem dX0_carryOut_131 : decode cX0_carryOut 131 = .ok (.aload 4, 2) := by decide +kernel
theorem dX0_carryOut_133 : decode cX0_carryOut 133 = .ok (.iconst 4, 1) := by decide +kernel
theorem dX0_carryOut_134 : decode cX0_carryOut 134 = .ok (.dup2, 1) := by decide +kernel
theorem dX0_carryOut_135 : decode cX0_carryOut 135 = .ok (.iaload, 1) := by decide +kernel
theorem dX0_carryOut_136 : decode cX0_carryOut 136 = .ok (.aload_n 0, 1) := by decide +kernel
theorem dX0_carryOut_137 : decode cX0_carryOut 137 = .ok (.getfield 17, 3) := by decide +kernel
theorem dX0_carryOut_140 : decode cX0_carryOut 140 = .ok (.iload_n 2, 1) := by decide +kernel
theorem dX0_carryOut_141 : decode cX0_carryOut 141 = .ok (.iaload, 1) := by decide +kernel
theorem dX0_carryOut_142 : decode cX0_carryOut 142 = .ok (.iadd, 1) := by decide +kernel
theorem dX0_carryOut_143 : decode cX0_carryOut 143 = .ok (.iastore, 1) := by decide +kernel
theorem dX0_carryOut_144 : decode cX0_carryOut 144 = .ok (.goto 133, 3) := by decide +kernel
theorem dX0_carryOut_147 : decode cX0_carryOut 147 = .ok (.aload 4, 2) := by decide +kernel
theorem dX0_carryOut_149 : decode cX0_carryOut 149 = .ok (.iconst 3, 1) := by decide +kernel
theorem dX0_carryOut_150 : decode cX0_carryOut 150 = .ok (.dup2, 1) := by decide +kernel
theorem dX0_carryOut_151 : decode cX0_carryOut 151 = .ok (.iaload, 1) := by decide +kernel
theorem dX0_carryOut_152 : decode cX0_carryOut 152 = .ok (.aload_n 0, 1) := by decide +kernel
theorem dX0_carryOut_153 : decode cX0_carryOut 153 = .ok (.getfield 17, 3) := by decide +kernel
theorem dX0_carryOut_156 : decode cX0_carryOut 156 = .ok (.iload_n 2, 1) := by decide +kernel
theorem dX0_carryOut_157 : decode cX0_carryOut 157 = .ok (.iaload, 1) := by decide +kernel
theorem dX0_carryOut_158 : decode cX0_carryOut 158 = .ok (.iadd, 1) := by decide +kernel
theorem dX0_carryOut_159 : decode cX0_carryOut 159 = .ok (.iastore, 1) := by decide +kernel
theorem dX0_carryOut_160 : decode cX0_carryOut 160 = .ok (.goto 117, 3) := by decide +kernel
theorem dX0_carryOut_163 : decode cX0_carryOut 163 = .ok (.aload 4, 2) := by decide +kernel
theorem dX0_carryOut_165 : decode cX0_carryOut 165 = .ok (.iconst 2, 1) := by decide +kernel
theorem dX0_carryOut_166 : decode cX0_carryOut 166 = .ok (.dup2, 1) := by decide +kernel
theorem dX0_carryOut_167 : decode cX0_carryOut 167 = .ok (.iaload, 1) := by decide +kernel
theorem dX0_carryOut_168 : decode cX0_carryOut 168 = .ok (.iconst 1, 1) := by decide +kernel
theorem dX0_carryOut_169 : decode cX0_carryOut 169 = .ok (.iadd, 1) := by decide +kernel
theorem dX0_carryOut_170 : decode cX0_carryOut 170 = .ok (.iastore, 1) := by decide +kernel
theorem dX0_carryOut_171 : decode cX0_carryOut 171 = .ok (.goto 106, 3) := by decide +kernel
theorem dX0_carryOut_174 : decode cX0_carryOut 174 = .ok (.aload 4, 2) := by decide +kernel
theorem dX0_carryOut_176 : decode cX0_carryOut 176 = .ok (.iconst 4, 1) := by decide +kernel
theorem dX0_carryOut_177 : decode cX0_carryOut 177 = .ok (.dup2, 1) := by decide +kernel
theorem dX0_carryOut_178 : decode cX0_carryOut 178 = .ok (.iaload, 1) := by decide +kernel
theorem dX0_carryOut_179 : decode cX0_carryOut 179 = .ok (.iconst 2, 1) := by decide +kernel
theorem dX0_carryOut_180 : decode cX0_carryOut 180 = .ok (.iadd, 1) := by decide +kernel
theorem dX0_carryOut_181 : decode cX0_carryOut 181 = .ok (.iastore, 1) := by decide +kernel
theorem dX0_carryOut_182 : decode cX0_carryOut 182 = .ok (.goto 95, 3) := by decide +kernel
theorem dX0_carryOut_185 : decode cX0_carryOut 185 = .ok (.aload_n 1, 1) := by decide +kernel
theorem dX0_carryOut_186 : decode cX0_carryOut 186 = .ok (.iconst (-1), 1) := by decide +kernel
theorem dX0_carryOut_187 : decode cX0_carryOut 187 = .ok (.invokevirtual 112, 3) := by decide +kernel
theorem dX0_carryOut_190 : decode cX0_carryOut 190 = .ok (.aload_n 1, 1) := by decide +kernel
theorem dX0_carryOut_191 : decode cX0_carryOut 191 = .ok (.dup, 1) := by decide +kernel
theorem dX0_carryOut_192 : decode cX0_carryOut 192 = .ok (.getfield 115, 3) := by decide +kernel
theorem dX0_carryOut_195 : decode cX0_carryOut 195 = .ok (.iconst 1, 1) := by decide +kernel
theorem dX0_carryOut_196 : decode cX0_carryOut 196 = .ok (.iadd, 1) := by decide +kernel
theorem dX0_carryOut_197 : decode cX0_carryOut 197 = .ok (.putfield 115, 3) := by decide +kernel
theorem dX0_carryOut_200 : decode cX0_carryOut 200 = .ok (.goto 77, 3) := by decide +kernel
theorem dX0_carryOut_203 : decode cX0_carryOut 203 = .ok (.aload_n 1, 1) := by decide +kernel
theorem dX0_carryOut_204 : decode cX0_carryOut 204 = .ok (.invokevirtual 118, 3) := by decide +kernel
theorem dX0_carryOut_207 : decode cX0_carryOut 207 = .ok (.goto 70, 3) := by decide +kernel
theorem dX0_carryOut_210 : decode cX0_carryOut 210 = .ok (.aload 4, 2) := by decide +kernel
theorem dX0_carryOut_212 : decode cX0_carryOut 212 = .ok (.iconst 2, 1) := by decide +kernel
theorem dX0_carryOut_213 : decode cX0_carryOut 213 = .ok (.dup2, 1) := by decide +kernel
theorem dX0_carryOut_214 : decode cX0_carryOut 214 = .ok (.iaload, 1) := by decide +kernel
theorem dX0_carryOut_215 : decode cX0_carryOut 215 = .ok (.iload_n 3, 1) := by decide +kernel
theorem dX0_carryOut_216 : decode cX0_carryOut 216 = .ok (.isub, 1) := by decide +kernel
theorem dX0_carryOut_217 : decode cX0_carryOut 217 = .ok (.iastore, 1) := by decide +kernel
theorem dX0_carryOut_218 : decode cX0_carryOut 218 = .ok (.aload 4, 2) := by decide +kernel
theorem dX0_carryOut_220 : decode cX0_carryOut 220 = .ok (.iconst 4, 1) := by decide +kernel
theorem dX0_carryOut_221 : decode cX0_carryOut 221 = .ok (.dup2, 1) := by decide +kernel
theorem dX0_carryOut_222 : decode cX0_carryOut 222 = .ok (.iaload, 1) := by decide +kernel
theorem dX0_carryOut_223 : decode cX0_carryOut 223 = .ok (.iload_n 3, 1) := by decide +kernel
theorem dX0_carryOut_224 : decode cX0_carryOut 224 = .ok (.aload_n 1, 1) := by decide +kernel
theorem dX0_carryOut_225 : decode cX0_carryOut 225 = .ok (.invokevirtual 121, 3) := by decide +kernel
theorem dX0_carryOut_228 : decode cX0_carryOut 228 = .ok (.imul, 1) := by decide +kernel
theorem dX0_carryOut_229 : decode cX0_carryOut 229 = .ok (.iadd, 1) := by decide +kernel
theorem dX0_carryOut_230 : decode cX0_carryOut 230 = .ok (.iastore, 1) := by decide +kernel
theorem dX0_carryOut_231 : decode cX0_carryOut 231 = .ok (.goto 46, 3) := by decide +kernel
theorem dX0_carryOut_234 : decode cX0_carryOut 234 = .ok (.aload_n 1, 1) := by decide +kernel
theorem dX0_carryOut_235 : decode cX0_carryOut 235 = .ok (.iload_n 3, 1) := by decide +kernel
theorem dX0_carryOut_236 : decode cX0_carryOut 236 = .ok (.invokevirtual 112, 3) := by decide +kernel
theorem dX0_carryOut_239 : decode cX0_carryOut 239 = .ok (.aload_n 1, 1) := by decide +kernel
theorem dX0_carryOut_240 : decode cX0_carryOut 240 = .ok (.dup, 1) := by decide +kernel
theorem dX0_carryOut_241 : decode cX0_carryOut 241 = .ok (.getfield 125, 3) := by decide +kernel
theorem dX0_carryOut_244 : decode cX0_carryOut 244 = .ok (.iconst 1, 1) := by decide +kernel
theorem dX0_carryOut_245 : decode cX0_carryOut 245 = .ok (.iload_n 3, 1) := by decide +kernel
theorem dX0_carryOut_246 : decode cX0_carryOut 246 = .ok (.ishl, 1) := by decide +kernel
theorem dX0_carryOut_247 : decode cX0_carryOut 247 = .ok (.ior, 1) := by decide +kernel
theorem dX0_carryOut_248 : decode cX0_carryOut 248 = .ok (.putfield 125, 3) := by decide +kernel
theorem dX0_carryOut_251 : decode cX0_carryOut 251 = .ok (.goto 26, 3) := by decide +kernel
theorem dX0_carryOut_254 : decode cX0_carryOut 254 = .ok (.aload 4, 2) := by decide +kernel
theorem dX0_carryOut_256 : decode cX0_carryOut 256 = .ok (.iload_n 3, 1) := by decide +kernel
theorem dX0_carryOut_257 : decode cX0_carryOut 257 = .ok (.iconst 5, 1) := by decide +kernel
theorem dX0_carryOut_258 : decode cX0_carryOut 258 = .ok (.idiv, 1) := by decide +kernel
theorem dX0_carryOut_259 : decode cX0_carryOut 259 = .ok (.dup2, 1) := by decide +kernel
theorem dX0_carryOut_260 : decode cX0_carryOut 260 = .ok (.iaload, 1) := by decide +kernel
theorem dX0_carryOut_261 : decode cX0_carryOut 261 = .ok (.iconst 2, 1) := by decide +kernel
theorem dX0_carryOut_262 : decode cX0_carryOut 262 = .ok (.isub, 1) := by decide +kernel
theorem dX0_carryOut_263 : decode cX0_carryOut 263 = .ok (.iastore, 1) := by decide +kernel
theorem dX0_carryOut_264 : decode cX0_carryOut 264 = .ok (.aload 4, 2) := by decide +kernel
theorem dX0_carryOut_266 : decode cX0_carryOut 266 = .ok (.iload_n 3, 1) := by decide +kernel
theorem dX0_carryOut_267 : decode cX0_carryOut 267 = .ok (.iconst 5, 1) := by decide +kernel
theorem dX0_carryOut_268 : decode cX0_carryOut 268 = .ok (.irem, 1) := by decide +kernel
theorem dX0_carryOut_269 : decode cX0_carryOut 269 = .ok (.dup2, 1) := by decide +kernel
theorem dX0_carryOut_270 : decode cX0_carryOut 270 = .ok (.iaload, 1) := by decide +kernel
theorem dX0_carryOut_271 : decode cX0_carryOut 271 = .ok (.iconst 1, 1) := by decide +kernel
theorem dX0_carryOut_272 : decode cX0_carryOut 272 = .ok (.iadd, 1) := by decide +kernel
theorem dX0_carryOut_273 : decode cX0_carryOut 273 = .ok (.iastore, 1) := by decide +kernel
theorem dX0_carryOut_274 : decode cX0_carryOut 274 = .ok (.goto 3, 3) := by decide +kernel
theorem dX0_carryOut_277 : decode cX0_carryOut 277 = .ok (.return_, 1) := by decide +kernel
theorem dX0_obstacle_0 : decode cX0_obstacle 0 = .ok (.aload_n 0, 1) := by decide +kernel
theorem dX0_obstacle_1 : decode cX0_obstacle 1 = .ok (.iload_n 1, 1) := by decide +kernel
theorem dX0_obstacle_2 : decode cX0_obstacle 2 = .ok (.invokevirtual 128, 3) := by decide +kernel
theorem dX0_obstacle_5 : decode cX0_obstacle 5 = .ok (.istore_n 3, 1) := by decide +kernel
theorem dX0_obstacle_6 : decode cX0_obstacle 6 = .ok (.iload_n 3, 1) := by decide +kernel
theorem dX0_obstacle_7 : decode cX0_obstacle 7 = .ok (.ifCond .eq 5, 3) := by decide +kernel
theorem dX0_obstacle_10 : decode cX0_obstacle 10 = .ok (.iload_n 3, 1) := by decide +kernel
theorem dX0_obstacle_11 : decode cX0_obstacle 11 = .ok (.ireturn, 1) := by decide +kernel
theorem dX0_obstacle_12 : decode cX0_obstacle 12 = .ok (.iload_n 1, 1) := by decide +kernel
theorem dX0_obstacle_13 : decode cX0_obstacle 13 = .ok (.iload_n 2, 1) := by decide +kernel
theorem dX0_obstacle_14 : decode cX0_obstacle 14 = .ok (.invokestatic 132, 3) := by decide +kernel
theorem dX0_obstacle_17 : decode cX0_obstacle 17 = .ok (.ifCond .ne 5, 3) := by decide +kernel
theorem dX0_obstacle_20 : decode cX0_obstacle 20 = .ok (.iconst 4, 1) := by decide +kernel
theorem dX0_obstacle_21 : decode cX0_obstacle 21 = .ok (.ireturn, 1) := by decide +kernel
theorem dX0_obstacle_22 : decode cX0_obstacle 22 = .ok (.aload_n 0, 1) := by decide +kernel
theorem dX0_obstacle_23 : decode cX0_obstacle 23 = .ok (.aload_n 0, 1) := by decide +kernel
theorem dX0_obstacle_24 : decode cX0_obstacle 24 = .ok (.getfield 11, 3) := by decide +kernel
theorem dX0_obstacle_27 : decode cX0_obstacle 27 = .ok (.aload_n 0, 1) := by decide +kernel
theorem dX0_obstacle_28 : decode cX0_obstacle 28 = .ok (.getfield 58, 3) := by decide +kernel
theorem dX0_obstacle_31 : decode cX0_obstacle 31 = .ok (.aaload, 1) := by decide +kernel
theorem dX0_obstacle_32 : decode cX0_obstacle 32 = .ok (.iload_n 1, 1) := by decide +kernel
theorem dX0_obstacle_33 : decode cX0_obstacle 33 = .ok (.iload_n 2, 1) := by decide +kernel
theorem dX0_obstacle_34 : decode cX0_obstacle 34 = .ok (.invokevirtual 136, 3) := by decide +kernel
theorem dX0_obstacle_37 : decode cX0_obstacle 37 = .ok (.ifCond .eq 7, 3) := by decide +kernel
theorem dX0_obstacle_40 : decode cX0_obstacle 40 = .ok (.iconst 0, 1) := by decide +kernel
theorem dX0_obstacle_41 : decode cX0_obstacle 41 = .ok (.goto 4, 3) := by decide +kernel
theorem dX0_obstacle_44 : decode cX0_obstacle 44 = .ok (.iconst 5, 1) := by decide +kernel
theorem dX0_obstacle_45 : decode cX0_obstacle 45 = .ok (.ireturn, 1) := by decide +kernel
theorem dX0_spaceObstacle_0 : decode cX0_spaceObstacle 0 = .ok (.aload_n 0, 1) := by decide +kernel
theorem dX0_spaceObstacle_1 : decode cX0_spaceObstacle 1 = .ok (.invokevirtual 140, 3) := by decide +kernel
theorem dX0_spaceObstacle_4 : decode cX0_spaceObstacle 4 = .ok (.ifCond .eq 5, 3) := by decide +kernel
theorem dX0_spaceObstacle_7 : decode cX0_spaceObstacle 7 = .ok (.iconst 1, 1) := by decide +kernel
theorem dX0_spaceObstacle_8 : decode cX0_spaceObstacle 8 = .ok (.ireturn, 1) := by decide +kernel
theorem dX0_spaceObstacle_9 : decode cX0_spaceObstacle 9 = .ok (.aload_n 0, 1) := by decide +kernel
theorem dX0_spaceObstacle_10 : decode cX0_spaceObstacle 10 = .ok (.getfield 21, 3) := by decide +kernel
theorem dX0_spaceObstacle_13 : decode cX0_spaceObstacle 13 = .ok (.iload_n 1, 1) := by decide +kernel
theorem dX0_spaceObstacle_14 : decode cX0_spaceObstacle 14 = .ok (.iaload, 1) := by decide +kernel
theorem dX0_spaceObstacle_15 : decode cX0_spaceObstacle 15 = .ok (.getstatic 143, 3) := by decide +kernel
theorem dX0_spaceObstacle_18 : decode cX0_spaceObstacle 18 = .ok (.iload_n 1, 1) := by decide +kernel
theorem dX0_spaceObstacle_19 : decode cX0_spaceObstacle 19 = .ok (.iaload, 1) := by decide +kernel
theorem dX0_spaceObstacle_20 : decode cX0_spaceObstacle 20 = .ok (.if_icmp .lt 5, 3) := by decide +kernel
theorem dX0_spaceObstacle_23 : decode cX0_spaceObstacle 23 = .ok (.iconst 2, 1) := by decide +kernel
theorem dX0_spaceObstacle_24 : decode cX0_spaceObstacle 24 = .ok (.ireturn, 1) := by decide +kernel
theorem dX0_spaceObstacle_25 : decode cX0_spaceObstacle 25 = .ok (.iload_n 1, 1) := by decide +kernel
theorem dX0_spaceObstacle_26 : decode cX0_spaceObstacle 26 = .ok (.bipush 7, 2) := by decide +kernel
theorem dX0_spaceObstacle_28 : decode cX0_spaceObstacle 28 = .ok (.if_icmp .ne 15, 3) := by decide +kernel
theorem dX0_spaceObstacle_31 : decode cX0_spaceObstacle 31 = .ok (.aload_n 0, 1) := by decide +kernel
theorem dX0_spaceObstacle_32 : decode cX0_spaceObstacle 32 = .ok (.getfield 42, 3) := by decide +kernel
theorem dX0_spaceObstacle_35 : decode cX0_spaceObstacle 35 = .ok (.iconst 2, 1) := by decide +kernel
theorem dX0_spaceObstacle_36 : decode cX0_spaceObstacle 36 = .ok (.if_icmp .ge 7, 3) := by decide +kernel
theorem dX0_spaceObstacle_39 : decode cX0_spaceObstacle 39 = .ok (.iconst 3, 1) := by decide +kernel
theorem dX0_spaceObstacle_40 : decode cX0_spaceObstacle 40 = .ok (.goto 4, 3) := by decide +kernel
theorem dX0_spaceObstacle_43 : decode cX0_spaceObstacle 43 = .ok (.iconst 0, 1) := by decide +kernel
theorem dX0_spaceObstacle_44 : decode cX0_spaceObstacle 44 = .ok (.ireturn, 1) := by decide +kernel
theorem dX0_isChoice_0 : decode cX0_isChoice 0 = .ok (.iload_n 1, 1) := by decide +kernel
theorem dX0_isChoice_1 : decode cX0_isChoice 1 = .ok (.getstatic 146, 3) := by decide +kernel
theorem dX0_isChoice_4 : decode cX0_isChoice 4 = .ok (.iload_n 0, 1) := by decide +kernel
theorem dX0_isChoice_5 : decode cX0_isChoice 5 = .ok (.iaload, 1) := by decide +kernel
theorem dX0_isChoice_6 : decode cX0_isChoice 6 = .ok (.if_icmp .lt 16, 3) := by decide +kernel
theorem dX0_isChoice_9 : decode cX0_isChoice 9 = .ok (.iload_n 1, 1) := by decide +kernel
theorem dX0_isChoice_10 : decode cX0_isChoice 10 = .ok (.getstatic 149, 3) := by decide +kernel
theorem dX0_isChoice_13 : decode cX0_isChoice 13 = .ok (.iload_n 0, 1) := by decide +kernel
theorem dX0_isChoice_14 : decode cX0_isChoice 14 = .ok (.iaload, 1) := by decide +kernel
theorem dX0_isChoice_15 : decode cX0_isChoice 15 = .ok (.if_icmp .gt 7, 3) := by decide +kernel
theorem dX0_isChoice_18 : decode cX0_isChoice 18 = .ok (.iconst 1, 1) := by decide +kernel
theorem dX0_isChoice_19 : decode cX0_isChoice 19 = .ok (.goto 4, 3) := by decide +kernel
theorem dX0_isChoice_22 : decode cX0_isChoice 22 = .ok (.iconst 0, 1) := by decide +kernel
theorem dX0_isChoice_23 : decode cX0_isChoice 23 = .ok (.istore_n 2, 1) := by decide +kernel
theorem dX0_isChoice_24 : decode cX0_isChoice 24 = .ok (.iload_n 2, 1) := by decide +kernel
theorem dX0_isChoice_25 : decode cX0_isChoice 25 = .ok (.ifCond .eq 22, 3) := by decide +kernel
theorem dX0_isChoice_28 : decode cX0_isChoice 28 = .ok (.iload_n 0, 1) := by decide +kernel
theorem dX0_isChoice_29 : decode cX0_isChoice 29 = .ok (.bipush 11, 2) := by decide +kernel
theorem dX0_isChoice_31 : decode cX0_isChoice 31 = .ok (.if_icmp .ne 12, 3) := by decide +kernel
theorem dX0_isChoice_34 : decode cX0_isChoice 34 = .ok (.iload_n 1, 1) := by decide +kernel
theorem dX0_isChoice_35 : decode cX0_isChoice 35 = .ok (.iconst 5, 1) := by decide +kernel
theorem dX0_isChoice_36 : decode cX0_isChoice 36 = .ok (.idiv, 1) := by decide +kernel
theorem dX0_isChoice_37 : decode cX0_isChoice 37 = .ok (.iload_n 1, 1) := by decide +kernel
theorem dX0_isChoice_38 : decode cX0_isChoice 38 = .ok (.iconst 5, 1) := by decide +kernel
theorem dX0_isChoice_39 : decode cX0_isChoice 39 = .ok (.irem, 1) := by decide +kernel
theorem dX0_isChoice_40 : decode cX0_isChoice 40 = .ok (.if_icmp .eq 7, 3) := by decide +kernel
theorem dX0_isChoice_43 : decode cX0_isChoice 43 = .ok (.iconst 1, 1) := by decide +kernel
theorem dX0_isChoice_44 : decode cX0_isChoice 44 = .ok (.goto 4, 3) := by decide +kernel
theorem dX0_isChoice_47 : decode cX0_isChoice 47 = .ok (.iconst 0, 1) := by decide +kernel
theorem dX0_isChoice_48 : decode cX0_isChoice 48 = .ok (.ireturn, 1) := by decide +kernel
theorem dX0_isAllowed_0 : decode cX0_isAllowed 0 = .ok (.iload_n 2, 1) := by decide +kernel
theorem dX0_isAllowed_1 : decode cX0_isAllowed 1 = .ok (.tableswitch 123 6 11 #[39, 61, 66, 82, 123, 105], 39) := by decide +kernel
theorem dX0_isAllowed_40 : decode cX0_isAllowed 40 = .ok (.aload_n 1, 1) := by decide +kernel
theorem dX0_isAllowed_41 : decode cX0_isAllowed 41 = .ok (.getfield 115, 3) := by decide +kernel
theorem dX0_isAllowed_44 : decode cX0_isAllowed 44 = .ok (.iconst 5, 1) := by decide +kernel
theorem dX0_isAllowed_45 : decode cX0_isAllowed 45 = .ok (.if_icmp .ge 15, 3) := by decide +kernel
theorem dX0_isAllowed_48 : decode cX0_isAllowed 48 = .ok (.aload_n 1, 1) := by decide +kernel
theorem dX0_isAllowed_49 : decode cX0_isAllowed 49 = .ok (.iconst (-1), 1) := by decide +kernel
theorem dX0_isAllowed_50 : decode cX0_isAllowed 50 = .ok (.invokevirtual 152, 3) := by decide +kernel
theorem dX0_isAllowed_53 : decode cX0_isAllowed 53 = .ok (.ifCond .eq 7, 3) := by decide +kernel
theorem dX0_isAllowed_56 : decode cX0_isAllowed 56 = .ok (.iconst 1, 1) := by decide +kernel
theorem dX0_isAllowed_57 : decode cX0_isAllowed 57 = .ok (.goto 4, 3) := by decide +kernel
theorem dX0_isAllowed_60 : decode cX0_isAllowed 60 = .ok (.iconst 0, 1) := by decide +kernel
theorem dX0_isAllowed_61 : decode cX0_isAllowed 61 = .ok (.ireturn, 1) := by decide +kernel
theorem dX0_isAllowed_62 : decode cX0_isAllowed 62 = .ok (.aload_n 1, 1) := by decide +kernel
theorem dX0_isAllowed_63 : decode cX0_isAllowed 63 = .ok (.invokevirtual 155, 3) := by decide +kernel
theorem dX0_isAllowed_66 : decode cX0_isAllowed 66 = .ok (.ireturn, 1) := by decide +kernel
theorem dX0_isAllowed_67 : decode cX0_isAllowed 67 = .ok (.aload_n 1, 1) := by decide +kernel
theorem dX0_isAllowed_68 : decode cX0_isAllowed 68 = .ok (.getfield 105, 3) := by decide +kernel
theorem dX0_isAllowed_71 : decode cX0_isAllowed 71 = .ok (.iconst 2, 1) := by decide +kernel
theorem dX0_isAllowed_72 : decode cX0_isAllowed 72 = .ok (.iaload, 1) := by decide +kernel
theorem dX0_isAllowed_73 : decode cX0_isAllowed 73 = .ok (.iload_n 3, 1) := by decide +kernel
theorem dX0_isAllowed_74 : decode cX0_isAllowed 74 = .ok (.if_icmp .lt 7, 3) := by decide +kernel
theorem dX0_isAllowed_77 : decode cX0_isAllowed 77 = .ok (.iconst 1, 1) := by decide +kernel
theorem dX0_isAllowed_78 : decode cX0_isAllowed 78 = .ok (.goto 4, 3) := by decide +kernel
theorem dX0_isAllowed_81 : decode cX0_isAllowed 81 = .ok (.iconst 0, 1) := by decide +kernel
theorem dX0_isAllowed_82 : decode cX0_isAllowed 82 = .ok (.ireturn, 1) := by decide +kernel
theorem dX0_isAllowed_83 : decode cX0_isAllowed 83 = .ok (.aload_n 0, 1) := by decide +kernel
theorem dX0_isAllowed_84 : decode cX0_isAllowed 84 = .ok (.iload_n 3, 1) := by decide +kernel
theorem dX0_isAllowed_85 : decode cX0_isAllowed 85 = .ok (.invokevirtual 158, 3) := by decide +kernel
theorem dX0_isAllowed_88 : decode cX0_isAllowed 88 = .ok (.iconst (-1), 1) := by decide +kernel
theorem dX0_isAllowed_89 : decode cX0_isAllowed 89 = .ok (.if_icmp .ne 15, 3) := by decide +kernel
theorem dX0_isAllowed_92 : decode cX0_isAllowed 92 = .ok (.aload_n 1, 1) := by decide +kernel
theorem dX0_isAllowed_93 : decode cX0_isAllowed 93 = .ok (.iload_n 3, 1) := by decide +kernel
theorem dX0_isAllowed_94 : decode cX0_isAllowed 94 = .ok (.invokevirtual 152, 3) := by decide +kernel
theorem dX0_isAllowed_97 : decode cX0_isAllowed 97 = .ok (.ifCond .eq 7, 3) := by decide +kernel
theorem dX0_isAllowed_100 : decode cX0_isAllowed 100 = .ok (.iconst 1, 1) := by decide +kernel
theorem dX0_isAllowed_101 : decode cX0_isAllowed 101 = .ok (.goto 4, 3) := by decide +kernel
theorem dX0_isAllowed_104 : decode cX0_isAllowed 104 = .ok (.iconst 0, 1) := by decide +kernel
theorem dX0_isAllowed_105 : decode cX0_isAllowed 105 = .ok (.ireturn, 1) := by decide +kernel
theorem dX0_isAllowed_106 : decode cX0_isAllowed 106 = .ok (.aload_n 1, 1) := by decide +kernel
theorem dX0_isAllowed_107 : decode cX0_isAllowed 107 = .ok (.getfield 105, 3) := by decide +kernel
theorem dX0_isAllowed_110 : decode cX0_isAllowed 110 = .ok (.iload_n 3, 1) := by decide +kernel
theorem dX0_isAllowed_111 : decode cX0_isAllowed 111 = .ok (.iconst 5, 1) := by decide +kernel
theorem dX0_isAllowed_112 : decode cX0_isAllowed 112 = .ok (.idiv, 1) := by decide +kernel
theorem dX0_isAllowed_113 : decode cX0_isAllowed 113 = .ok (.iaload, 1) := by decide +kernel
theorem dX0_isAllowed_114 : decode cX0_isAllowed 114 = .ok (.iconst 2, 1) := by decide +kernel
theorem dX0_isAllowed_115 : decode cX0_isAllowed 115 = .ok (.if_icmp .lt 7, 3) := by decide +kernel
theorem dX0_isAllowed_118 : decode cX0_isAllowed 118 = .ok (.iconst 1, 1) := by decide +kernel
theorem dX0_isAllowed_119 : decode cX0_isAllowed 119 = .ok (.goto 4, 3) := by decide +kernel
theorem dX0_isAllowed_122 : decode cX0_isAllowed 122 = .ok (.iconst 0, 1) := by decide +kernel
theorem dX0_isAllowed_123 : decode cX0_isAllowed 123 = .ok (.ireturn, 1) := by decide +kernel
theorem dX0_isAllowed_124 : decode cX0_isAllowed 124 = .ok (.iconst 1, 1) := by decide +kernel
theorem dX0_isAllowed_125 : decode cX0_isAllowed 125 = .ok (.ireturn, 1) := by decide +kernel
theorem dX0_listPlacements_0 : decode cX0_listPlacements 0 = .ok (.iconst 0, 1) := by decide +kernel
theorem dX0_listPlacements_1 : decode cX0_listPlacements 1 = .ok (.istore_n 2, 1) := by decide +kernel
theorem dX0_listPlacements_2 : decode cX0_listPlacements 2 = .ok (.iconst 0, 1) := by decide +kernel
theorem dX0_listPlacements_3 : decode cX0_listPlacements 3 = .ok (.istore_n 3, 1) := by decide +kernel
theorem dX0_listPlacements_4 : decode cX0_listPlacements 4 = .ok (.iload_n 3, 1) := by decide +kernel
theorem dX0_listPlacements_5 : decode cX0_listPlacements 5 = .ok (.bipush 12, 2) := by decide +kernel
theorem dX0_listPlacements_7 : decode cX0_listPlacements 7 = .ok (.if_icmp .ge 102, 3) := by decide +kernel
theorem dX0_listPlacements_10 : decode cX0_listPlacements 10 = .ok (.aload_n 0, 1) := by decide +kernel
theorem dX0_listPlacements_11 : decode cX0_listPlacements 11 = .ok (.iload_n 3, 1) := by decide +kernel
theorem dX0_listPlacements_12 : decode cX0_listPlacements 12 = .ok (.invokevirtual 128, 3) := by decide +kernel
theorem dX0_listPlacements_15 : decode cX0_listPlacements 15 = .ok (.ifCond .eq 6, 3) := by decide +kernel
theorem dX0_listPlacements_18 : decode cX0_listPlacements 18 = .ok (.goto 85, 3) := by decide +kernel
theorem dX0_listPlacements_21 : decode cX0_listPlacements 21 = .ok (.getstatic 146, 3) := by decide +kernel
theorem dX0_listPlacements_24 : decode cX0_listPlacements 24 = .ok (.iload_n 3, 1) := by decide +kernel
theorem dX0_listPlacements_25 : decode cX0_listPlacements 25 = .ok (.iaload, 1) := by decide +kernel
theorem dX0_listPlacements_26 : decode cX0_listPlacements 26 = .ok (.istore 4, 2) := by decide +kernel
theorem dX0_listPlacements_28 : decode cX0_listPlacements 28 = .ok (.iload 4, 2) := by decide +kernel
theorem dX0_listPlacements_30 : decode cX0_listPlacements 30 = .ok (.getstatic 149, 3) := by decide +kernel
theorem dX0_listPlacements_33 : decode cX0_listPlacements 33 = .ok (.iload_n 3, 1) := by decide +kernel
theorem dX0_listPlacements_34 : decode cX0_listPlacements 34 = .ok (.iaload, 1) := by decide +kernel
theorem dX0_listPlacements_35 : decode cX0_listPlacements 35 = .ok (.if_icmp .gt 68, 3) := by decide +kernel
theorem dX0_listPlacements_38 : decode cX0_listPlacements 38 = .ok (.iload_n 2, 1) := by decide +kernel
theorem dX0_listPlacements_39 : decode cX0_listPlacements 39 = .ok (.aload_n 1, 1) := by decide +kernel
theorem dX0_listPlacements_40 : decode cX0_listPlacements 40 = .ok (.arraylength, 1) := by decide +kernel
theorem dX0_listPlacements_41 : decode cX0_listPlacements 41 = .ok (.if_icmp .ge 16, 3) := by decide +kernel
theorem dX0_listPlacements_44 : decode cX0_listPlacements 44 = .ok (.iload_n 3, 1) := by decide +kernel
theorem dX0_listPlacements_45 : decode cX0_listPlacements 45 = .ok (.iload 4, 2) := by decide +kernel
theorem dX0_listPlacements_47 : decode cX0_listPlacements 47 = .ok (.invokestatic 132, 3) := by decide +kernel
theorem dX0_listPlacements_50 : decode cX0_listPlacements 50 = .ok (.ifCond .eq 7, 3) := by decide +kernel
theorem dX0_listPlacements_53 : decode cX0_listPlacements 53 = .ok (.iconst 1, 1) := by decide +kernel
theorem dX0_listPlacements_54 : decode cX0_listPlacements 54 = .ok (.goto 4, 3) := by decide +kernel
theorem dX0_listPlacements_57 : decode cX0_listPlacements 57 = .ok (.iconst 0, 1) := by decide +kernel
theorem dX0_listPlacements_58 : decode cX0_listPlacements 58 = .ok (.istore 5, 2) := by decide +kernel
theorem dX0_listPlacements_60 : decode cX0_listPlacements 60 = .ok (.iload 5, 2) := by decide +kernel
theorem dX0_listPlacements_62 : decode cX0_listPlacements 62 = .ok (.ifCond .eq 35, 3) := by decide +kernel
theorem dX0_listPlacements_65 : decode cX0_listPlacements 65 = .ok (.aload_n 0, 1) := by decide +kernel
theorem dX0_listPlacements_66 : decode cX0_listPlacements 66 = .ok (.aload_n 0, 1) := by decide +kernel
theorem dX0_listPlacements_67 : decode cX0_listPlacements 67 = .ok (.getfield 11, 3) := by decide +kernel
theorem dX0_listPlacements_70 : decode cX0_listPlacements 70 = .ok (.aload_n 0, 1) := by decide +kernel
theorem dX0_listPlacements_71 : decode cX0_listPlacements 71 = .ok (.getfield 58, 3) := by decide +kernel
theorem dX0_listPlacements_74 : decode cX0_listPlacements 74 = .ok (.aaload, 1) := by decide +kernel
theorem dX0_listPlacements_75 : decode cX0_listPlacements 75 = .ok (.iload_n 3, 1) := by decide +kernel
theorem dX0_listPlacements_76 : decode cX0_listPlacements 76 = .ok (.iload 4, 2) := by decide +kernel
theorem dX0_listPlacements_78 : decode cX0_listPlacements 78 = .ok (.invokevirtual 136, 3) := by decide +kernel
theorem dX0_listPlacements_81 : decode cX0_listPlacements 81 = .ok (.ifCond .eq 16, 3) := by decide +kernel
theorem dX0_listPlacements_84 : decode cX0_listPlacements 84 = .ok (.aload_n 1, 1) := by decide +kernel
theorem dX0_listPlacements_85 : decode cX0_listPlacements 85 = .ok (.iload_n 2, 1) := by decide +kernel
theorem dX0_listPlacements_86 : decode cX0_listPlacements 86 = .ok (.bipush 100, 2) := by decide +kernel
theorem dX0_listPlacements_88 : decode cX0_listPlacements 88 = .ok (.iload_n 3, 1) := by decide +kernel
theorem dX0_listPlacements_89 : decode cX0_listPlacements 89 = .ok (.imul, 1) := by decide +kernel
theorem dX0_listPlacements_90 : decode cX0_listPlacements 90 = .ok (.iload 4, 2) := by decide +kernel
theorem dX0_listPlacements_92 : decode cX0_listPlacements 92 = .ok (.iadd, 1) := by decide +kernel
theorem dX0_listPlacements_93 : decode cX0_listPlacements 93 = .ok (.iastore, 1) := by decide +kernel
theorem dX0_listPlacements_94 : decode cX0_listPlacements 94 = .ok (.iinc 2 1, 3) := by decide +kernel
theorem dX0_listPlacements_97 : decode cX0_listPlacements 97 = .ok (.iinc 4 1, 3) := by decide +kernel
theorem dX0_listPlacements_100 : decode cX0_listPlacements 100 = .ok (.goto (-72), 3) := by decide +kernel
theorem dX0_listPlacements_103 : decode cX0_listPlacements 103 = .ok (.iinc 3 1, 3) := by decide +kernel
theorem dX0_listPlacements_106 : decode cX0_listPlacements 106 = .ok (.goto (-102), 3) := by decide +kernel
theorem dX0_listPlacements_109 : decode cX0_listPlacements 109 = .ok (.iload_n 2, 1) := by decide +kernel
theorem dX0_listPlacements_110 : decode cX0_listPlacements 110 = .ok (.ireturn, 1) := by decide +kernel
theorem dX0_ownerOf_0 : decode cX0_ownerOf 0 = .ok (.iconst 0, 1) := by decide +kernel
theorem dX0_ownerOf_1 : decode cX0_ownerOf 1 = .ok (.istore_n 2, 1) := by decide +kernel
theorem dX0_ownerOf_2 : decode cX0_ownerOf 2 = .ok (.iload_n 2, 1) := by decide +kernel
theorem dX0_ownerOf_3 : decode cX0_ownerOf 3 = .ok (.aload_n 0, 1) := by decide +kernel
theorem dX0_ownerOf_4 : decode cX0_ownerOf 4 = .ok (.getfield 35, 3) := by decide +kernel
theorem dX0_ownerOf_7 : decode cX0_ownerOf 7 = .ok (.if_icmp .ge 24, 3) := by decide +kernel
theorem dX0_ownerOf_10 : decode cX0_ownerOf 10 = .ok (.aload_n 0, 1) := by decide +kernel
theorem dX0_ownerOf_11 : decode cX0_ownerOf 11 = .ok (.getfield 11, 3) := by decide +kernel
theorem dX0_ownerOf_14 : decode cX0_ownerOf 14 = .ok (.iload_n 2, 1) := by decide +kernel
theorem dX0_ownerOf_15 : decode cX0_ownerOf 15 = .ok (.aaload, 1) := by decide +kernel
theorem dX0_ownerOf_16 : decode cX0_ownerOf 16 = .ok (.iload_n 1, 1) := by decide +kernel
theorem dX0_ownerOf_17 : decode cX0_ownerOf 17 = .ok (.invokevirtual 108, 3) := by decide +kernel
theorem dX0_ownerOf_20 : decode cX0_ownerOf 20 = .ok (.ifCond .eq 5, 3) := by decide +kernel
theorem dX0_ownerOf_23 : decode cX0_ownerOf 23 = .ok (.iload_n 2, 1) := by decide +kernel
theorem dX0_ownerOf_24 : decode cX0_ownerOf 24 = .ok (.ireturn, 1) := by decide +kernel
theorem dX0_ownerOf_25 : decode cX0_ownerOf 25 = .ok (.iinc 2 1, 3) := by decide +kernel
theorem dX0_ownerOf_28 : decode cX0_ownerOf 28 = .ok (.goto (-26), 3) := by decide +kernel
theorem dX0_ownerOf_31 : decode cX0_ownerOf 31 = .ok (.iconst (-1), 1) := by decide +kernel
theorem dX0_ownerOf_32 : decode cX0_ownerOf 32 = .ok (.ireturn, 1) := by decide +kernel
theorem dX0_rankOf_0 : decode cX0_rankOf 0 = .ok (.iconst 1, 1) := by decide +kernel
theorem dX0_rankOf_1 : decode cX0_rankOf 1 = .ok (.istore_n 2, 1) := by decide +kernel
theorem dX0_rankOf_2 : decode cX0_rankOf 2 = .ok (.iconst 0, 1) := by decide +kernel
theorem dX0_rankOf_3 : decode cX0_rankOf 3 = .ok (.istore_n 3, 1) := by decide +kernel
theorem dX0_rankOf_4 : decode cX0_rankOf 4 = .ok (.iload_n 3, 1) := by decide +kernel
theorem dX0_rankOf_5 : decode cX0_rankOf 5 = .ok (.aload_n 0, 1) := by decide +kernel
theorem dX0_rankOf_6 : decode cX0_rankOf 6 = .ok (.getfield 35, 3) := by decide +kernel
theorem dX0_rankOf_9 : decode cX0_rankOf 9 = .ok (.if_icmp .ge 30, 3) := by decide +kernel
theorem dX0_rankOf_12 : decode cX0_rankOf 12 = .ok (.aload_n 0, 1) := by decide +kernel
theorem dX0_rankOf_13 : decode cX0_rankOf 13 = .ok (.getfield 11, 3) := by decide +kernel
theorem dX0_rankOf_16 : decode cX0_rankOf 16 = .ok (.iload_n 3, 1) := by decide +kernel
theorem dX0_rankOf_17 : decode cX0_rankOf 17 = .ok (.aaload, 1) := by decide +kernel
theorem dX0_rankOf_18 : decode cX0_rankOf 18 = .ok (.aload_n 0, 1) := by decide +kernel
theorem dX0_rankOf_19 : decode cX0_rankOf 19 = .ok (.getfield 11, 3) := by decide +kernel
theorem dX0_rankOf_22 : decode cX0_rankOf 22 = .ok (.iload_n 1, 1) := by decide +kernel
theorem dX0_rankOf_23 : decode cX0_rankOf 23 = .ok (.aaload, 1) := by decide +kernel
theorem dX0_rankOf_24 : decode cX0_rankOf 24 = .ok (.invokevirtual 161, 3) := by decide +kernel
theorem dX0_rankOf_27 : decode cX0_rankOf 27 = .ok (.ifCond .eq 6, 3) := by decide +kernel
theorem dX0_rankOf_30 : decode cX0_rankOf 30 = .ok (.iinc 2 1, 3) := by decide +kernel
theorem dX0_rankOf_33 : decode cX0_rankOf 33 = .ok (.iinc 3 1, 3) := by decide +kernel
theorem dX0_rankOf_36 : decode cX0_rankOf 36 = .ok (.goto (-32), 3) := by decide +kernel
theorem dX0_rankOf_39 : decode cX0_rankOf 39 = .ok (.iload_n 2, 1) := by decide +kernel
theorem dX0_rankOf_40 : decode cX0_rankOf 40 = .ok (.ireturn, 1) := by decide +kernel
theorem dX0_spacePart_0 : decode cX0_spacePart 0 = .ok (.iload_n 2, 1) := by decide +kernel
theorem dX0_spacePart_1 : decode cX0_spacePart 1 = .ok (.tableswitch 47 0 2 #[27, 34, 41], 27) := by decide +kernel
theorem dX0_spacePart_28 : decode cX0_spacePart 28 = .ok (.aload_n 0, 1) := by decide +kernel
theorem dX0_spacePart_29 : decode cX0_spacePart 29 = .ok (.getfield 17, 3) := by decide +kernel
theorem dX0_spacePart_32 : decode cX0_spacePart 32 = .ok (.iload_n 1, 1) := by decide +kernel
theorem dX0_spacePart_33 : decode cX0_spacePart 33 = .ok (.iaload, 1) := by decide +kernel
theorem dX0_spacePart_34 : decode cX0_spacePart 34 = .ok (.ireturn, 1) := by decide +kernel
theorem dX0_spacePart_35 : decode cX0_spacePart 35 = .ok (.aload_n 0, 1) := by decide +kernel
theorem dX0_spacePart_36 : decode cX0_spacePart 36 = .ok (.getfield 21, 3) := by decide +kernel
theorem dX0_spacePart_39 : decode cX0_spacePart 39 = .ok (.iload_n 1, 1) := by decide +kernel
theorem dX0_spacePart_40 : decode cX0_spacePart 40 = .ok (.iaload, 1) := by decide +kernel
theorem dX0_spacePart_41 : decode cX0_spacePart 41 = .ok (.ireturn, 1) := by decide +kernel
theorem dX0_spacePart_42 : decode cX0_spacePart 42 = .ok (.getstatic 143, 3) := by decide +kernel
theorem dX0_spacePart_45 : decode cX0_spacePart 45 = .ok (.iload_n 1, 1) := by decide +kernel
theorem dX0_spacePart_46 : decode cX0_spacePart 46 = .ok (.iaload, 1) := by decide +kernel
theorem dX0_spacePart_47 : decode cX0_spacePart 47 = .ok (.ireturn, 1) := by decide +kernel
theorem dX0_spacePart_48 : decode cX0_spacePart 48 = .ok (.aload_n 0, 1) := by decide +kernel
theorem dX0_spacePart_49 : decode cX0_spacePart 49 = .ok (.getfield 24, 3) := by decide +kernel
theorem dX0_spacePart_52 : decode cX0_spacePart 52 = .ok (.iload_n 1, 1) := by decide +kernel
theorem dX0_spacePart_53 : decode cX0_spacePart 53 = .ok (.iaload, 1) := by decide +kernel
theorem dX0_spacePart_54 : decode cX0_spacePart 54 = .ok (.ireturn, 1) := by decide +kernel
theorem dX1_init_0 : decode cX1_init 0 = .ok (.aload_n 0, 1) := by decide +kernel
theorem dX1_init_1 : decode cX1_init 1 = .ok (.invokespecial 3, 3) := by decide +kernel
theorem dX1_init_4 : decode cX1_init 4 = .ok (.aload_n 0, 1) := by decide +kernel
theorem dX1_init_5 : decode cX1_init 5 = .ok (.bipush 120, 2) := by decide +kernel
theorem dX1_init_7 : decode cX1_init 7 = .ok (.newarray .int, 2) := by decide +kernel
theorem dX1_init_9 : decode cX1_init 9 = .ok (.putfield 9, 3) := by decide +kernel
theorem dX1_init_12 : decode cX1_init 12 = .ok (.return_, 1) := by decide +kernel
theorem dX1_clear_0 : decode cX1_clear 0 = .ok (.aload_n 0, 1) := by decide +kernel
theorem dX1_clear_1 : decode cX1_clear 1 = .ok (.iconst 0, 1) := by decide +kernel
theorem dX1_clear_2 : decode cX1_clear 2 = .ok (.putfield 15, 3) := by decide +kernel
theorem dX1_clear_5 : decode cX1_clear 5 = .ok (.aload_n 0, 1) := by decide +kernel
theorem dX1_clear_6 : decode cX1_clear 6 = .ok (.iconst 0, 1) := by decide +kernel
theorem dX1_clear_7 : decode cX1_clear 7 = .ok (.putfield 19, 3) := by decide +kernel
theorem dX1_clear_10 : decode cX1_clear 10 = .ok (.return_, 1) := by decide +kernel
theorem dX1_copyFrom_0 : decode cX1_copyFrom 0 = .ok (.aload_n 1, 1) := by decide +kernel
theorem dX1_copyFrom_1 : decode cX1_copyFrom 1 = .ok (.getfield 9, 3) := by decide +kernel
theorem dX1_copyFrom_4 : decode cX1_copyFrom 4 = .ok (.iconst 0, 1) := by decide +kernel
theorem dX1_copyFrom_5 : decode cX1_copyFrom 5 = .ok (.aload_n 0, 1) := by decide +kernel
theorem dX1_copyFrom_6 : decode cX1_copyFrom 6 = .ok (.getfield 9, 3) := by decide +kernel
theorem dX1_copyFrom_9 : decode cX1_copyFrom 9 = .ok (.iconst 0, 1) := by decide +kernel
theorem dX1_copyFrom_10 : decode cX1_copyFrom 10 = .ok (.bipush 120, 2) := by decide +kernel
theorem dX1_copyFrom_12 : decode cX1_copyFrom 12 = .ok (.invokestatic 22, 3) := by decide +kernel
theorem dX1_copyFrom_15 : decode cX1_copyFrom 15 = .ok (.aload_n 0, 1) := by decide +kernel
theorem dX1_copyFrom_16 : decode cX1_copyFrom 16 = .ok (.aload_n 1, 1) := by decide +kernel
theorem dX1_copyFrom_17 : decode cX1_copyFrom 17 = .ok (.getfield 15, 3) := by decide +kernel
theorem dX1_copyFrom_20 : decode cX1_copyFrom 20 = .ok (.putfield 15, 3) := by decide +kernel
theorem dX1_copyFrom_23 : decode cX1_copyFrom 23 = .ok (.aload_n 0, 1) := by decide +kernel
theorem dX1_copyFrom_24 : decode cX1_copyFrom 24 = .ok (.aload_n 1, 1) := by decide +kernel
theorem dX1_copyFrom_25 : decode cX1_copyFrom 25 = .ok (.getfield 19, 3) := by decide +kernel
theorem dX1_copyFrom_28 : decode cX1_copyFrom 28 = .ok (.putfield 19, 3) := by decide +kernel
theorem dX1_copyFrom_31 : decode cX1_copyFrom 31 = .ok (.return_, 1) := by decide +kernel
theorem dX1_add_0 : decode cX1_add 0 = .ok (.aload_n 0, 1) := by decide +kernel
theorem dX1_add_1 : decode cX1_add 1 = .ok (.aload_n 0, 1) := by decide +kernel
theorem dX1_add_2 : decode cX1_add 2 = .ok (.getfield 19, 3) := by decide +kernel
theorem dX1_add_5 : decode cX1_add 5 = .ok (.invokevirtual 28, 3) := by decide +kernel
theorem dX1_add_8 : decode cX1_add 8 = .ok (.istore 5, 2) := by decide +kernel
theorem dX1_add_10 : decode cX1_add 10 = .ok (.aload_n 0, 1) := by decide +kernel
theorem dX1_add_11 : decode cX1_add 11 = .ok (.getfield 9, 3) := by decide +kernel
theorem dX1_add_14 : decode cX1_add 14 = .ok (.iload 5, 2) := by decide +kernel
theorem dX1_add_16 : decode cX1_add 16 = .ok (.iload_n 1, 1) := by decide +kernel
theorem dX1_add_17 : decode cX1_add 17 = .ok (.iastore, 1) := by decide +kernel
theorem dX1_add_18 : decode cX1_add 18 = .ok (.aload_n 0, 1) := by decide +kernel
theorem dX1_add_19 : decode cX1_add 19 = .ok (.getfield 9, 3) := by decide +kernel
theorem dX1_add_22 : decode cX1_add 22 = .ok (.iload 5, 2) := by decide +kernel
theorem dX1_add_24 : decode cX1_add 24 = .ok (.iconst 1, 1) := by decide +kernel
theorem dX1_add_25 : decode cX1_add 25 = .ok (.iadd, 1) := by decide +kernel
theorem dX1_add_26 : decode cX1_add 26 = .ok (.iload_n 2, 1) := by decide +kernel
theorem dX1_add_27 : decode cX1_add 27 = .ok (.iastore, 1) := by decide +kernel
theorem dX1_add_28 : decode cX1_add 28 = .ok (.aload_n 0, 1) := by decide +kernel
theorem dX1_add_29 : decode cX1_add 29 = .ok (.getfield 9, 3) := by decide +kernel
theorem dX1_add_32 : decode cX1_add 32 = .ok (.iload 5, 2) := by decide +kernel
theorem dX1_add_34 : decode cX1_add 34 = .ok (.iconst 2, 1) := by decide +kernel
theorem dX1_add_35 : decode cX1_add 35 = .ok (.iadd, 1) := by decide +kernel
theorem dX1_add_36 : decode cX1_add 36 = .ok (.iload_n 3, 1) := by decide +kernel
theorem dX1_add_37 : decode cX1_add 37 = .ok (.iastore, 1) := by decide +kernel
theorem dX1_add_38 : decode cX1_add 38 = .ok (.aload_n 0, 1) := by decide +kernel
theorem dX1_add_39 : decode cX1_add 39 = .ok (.getfield 9, 3) := by decide +kernel
theorem dX1_add_42 : decode cX1_add 42 = .ok (.iload 5, 2) := by decide +kernel
theorem dX1_add_44 : decode cX1_add 44 = .ok (.iconst 3, 1) := by decide +kernel
theorem dX1_add_45 : decode cX1_add 45 = .ok (.iadd, 1) := by decide +kernel
theorem dX1_add_46 : decode cX1_add 46 = .ok (.iload 4, 2) := by decide +kernel
theorem dX1_add_48 : decode cX1_add 48 = .ok (.iastore, 1) := by decide +kernel
theorem dX1_add_49 : decode cX1_add 49 = .ok (.aload_n 0, 1) := by decide +kernel
theorem dX1_add_50 : decode cX1_add 50 = .ok (.getfield 19, 3) := by decide +kernel
theorem dX1_add_53 : decode cX1_add 53 = .ok (.bipush 30, 2) := by decide +kernel
theorem dX1_add_55 : decode cX1_add 55 = .ok (.if_icmp .ge 16, 3) := by decide +kernel
theorem dX1_add_58 : decode cX1_add 58 = .ok (.aload_n 0, 1) := by decide +kernel
theorem dX1_add_59 : decode cX1_add 59 = .ok (.dup, 1) := by decide +kernel
theorem dX1_add_60 : decode cX1_add 60 = .ok (.getfield 19, 3) := by decide +kernel
theorem dX1_add_63 : decode cX1_add 63 = .ok (.iconst 1, 1) := by decide +kernel
theorem dX1_add_64 : decode cX1_add 64 = .ok (.iadd, 1) := by decide +kernel
theorem dX1_add_65 : decode cX1_add 65 = .ok (.putfield 19, 3) := by decide +kernel
theorem dX1_add_68 : decode cX1_add 68 = .ok (.goto 16, 3) := by decide +kernel
theorem dX1_add_71 : decode cX1_add 71 = .ok (.aload_n 0, 1) := by decide +kernel
theorem dX1_add_72 : decode cX1_add 72 = .ok (.aload_n 0, 1) := by decide +kernel
theorem dX1_add_73 : decode cX1_add 73 = .ok (.getfield 15, 3) := by decide +kernel
theorem dX1_add_76 : decode cX1_add 76 = .ok (.iconst 1, 1) := by decide +kernel
theorem dX1_add_77 : decode cX1_add 77 = .ok (.iadd, 1) := by decide +kernel
theorem dX1_add_78 : decode cX1_add 78 = .ok (.bipush 30, 2) := by decide +kernel
theorem dX1_add_80 : decode cX1_add 80 = .ok (.irem, 1) := by decide +kernel
theorem dX1_add_81 : decode cX1_add 81 = .ok (.putfield 15, 3) := by decide +kernel
theorem dX1_add_84 : decode cX1_add 84 = .ok (.return_, 1) := by decide +kernel
theorem dX1_part_0 : decode cX1_part 0 = .ok (.aload_n 0, 1) := by decide +kernel
theorem dX1_part_1 : decode cX1_part 1 = .ok (.getfield 9, 3) := by decide +kernel
theorem dX1_part_4 : decode cX1_part 4 = .ok (.aload_n 0, 1) := by decide +kernel
theorem dX1_part_5 : decode cX1_part 5 = .ok (.iload_n 1, 1) := by decide +kernel
theorem dX1_part_6 : decode cX1_part 6 = .ok (.invokevirtual 28, 3) := by decide +kernel
theorem dX1_part_9 : decode cX1_part 9 = .ok (.iload_n 2, 1) := by decide +kernel
theorem dX1_part_10 : decode cX1_part 10 = .ok (.iadd, 1) := by decide +kernel
theorem dX1_part_11 : decode cX1_part 11 = .ok (.iaload, 1) := by decide +kernel
theorem dX1_part_12 : decode cX1_part 12 = .ok (.ireturn, 1) := by decide +kernel
theorem dX1_startOf_0 : decode cX1_startOf 0 = .ok (.aload_n 0, 1) := by decide +kernel
theorem dX1_startOf_1 : decode cX1_startOf 1 = .ok (.getfield 15, 3) := by decide +kernel
theorem dX1_startOf_4 : decode cX1_startOf 4 = .ok (.iload_n 1, 1) := by decide +kernel
theorem dX1_startOf_5 : decode cX1_startOf 5 = .ok (.iadd, 1) := by decide +kernel
theorem dX1_startOf_6 : decode cX1_startOf 6 = .ok (.bipush 30, 2) := by decide +kernel
theorem dX1_startOf_8 : decode cX1_startOf 8 = .ok (.irem, 1) := by decide +kernel
theorem dX1_startOf_9 : decode cX1_startOf 9 = .ok (.iconst 4, 1) := by decide +kernel
theorem dX1_startOf_10 : decode cX1_startOf 10 = .ok (.imul, 1) := by decide +kernel
theorem dX1_startOf_11 : decode cX1_startOf 11 = .ok (.ireturn, 1) := by decide +kernel
theorem dX2_init_0 : decode cX2_init 0 = .ok (.aload_n 0, 1) := by decide +kernel
theorem dX2_init_1 : decode cX2_init 1 = .ok (.invokespecial 3, 3) := by decide +kernel
theorem dX2_init_4 : decode cX2_init 4 = .ok (.aload_n 0, 1) := by decide +kernel
theorem dX2_init_5 : decode cX2_init 5 = .ok (.iconst 5, 1) := by decide +kernel
theorem dX2_init_6 : decode cX2_init 6 = .ok (.newarray .int, 2) := by decide +kernel
theorem dX2_init_8 : decode cX2_init 8 = .ok (.putfield 9, 3) := by decide +kernel
theorem dX2_init_11 : decode cX2_init 11 = .ok (.return_, 1) := by decide +kernel
theorem dX2_begin_0 : decode cX2_begin 0 = .ok (.iconst 0, 1) := by decide +kernel
theorem dX2_begin_1 : decode cX2_begin 1 = .ok (.istore_n 2, 1) := by decide +kernel
theorem dX2_begin_2 : decode cX2_begin 2 = .ok (.iload_n 2, 1) := by decide +kernel
theorem dX2_begin_3 : decode cX2_begin 3 = .ok (.iconst 5, 1) := by decide +kernel
theorem dX2_begin_4 : decode cX2_begin 4 = .ok (.if_icmp .ge 16, 3) := by decide +kernel
theorem dX2_begin_7 : decode cX2_begin 7 = .ok (.aload_n 0, 1) := by decide +kernel
theorem dX2_begin_8 : decode cX2_begin 8 = .ok (.getfield 9, 3) := by decide +kernel
theorem dX2_begin_11 : decode cX2_begin 11 = .ok (.iload_n 2, 1) := by decide +kernel
theorem dX2_begin_12 : decode cX2_begin 12 = .ok (.iconst 0, 1) := by decide +kernel
theorem dX2_begin_13 : decode cX2_begin 13 = .ok (.iastore, 1) := by decide +kernel
theorem dX2_begin_14 : decode cX2_begin 14 = .ok (.iinc 2 1, 3) := by decide +kernel
theorem dX2_begin_17 : decode cX2_begin 17 = .ok (.goto (-15), 3) := by decide +kernel
theorem dX2_begin_20 : decode cX2_begin 20 = .ok (.aload_n 0, 1) := by decide +kernel
theorem dX2_begin_21 : decode cX2_begin 21 = .ok (.getfield 9, 3) := by decide +kernel
theorem dX2_begin_24 : decode cX2_begin 24 = .ok (.iconst 4, 1) := by decide +kernel
theorem dX2_begin_25 : decode cX2_begin 25 = .ok (.iload_n 1, 1) := by decide +kernel
theorem dX2_begin_26 : decode cX2_begin 26 = .ok (.iastore, 1) := by decide +kernel
theorem dX2_begin_27 : decode cX2_begin 27 = .ok (.aload_n 0, 1) := by decide +kernel
theorem dX2_begin_28 : decode cX2_begin 28 = .ok (.iconst 2, 1) := by decide +kernel
theorem dX2_begin_29 : decode cX2_begin 29 = .ok (.putfield 15, 3) := by decide +kernel
theorem dX2_begin_32 : decode cX2_begin 32 = .ok (.aload_n 0, 1) := by decide +kernel
theorem dX2_begin_33 : decode cX2_begin 33 = .ok (.iconst 2, 1) := by decide +kernel
theorem dX2_begin_34 : decode cX2_begin 34 = .ok (.putfield 19, 3) := by decide +kernel
theorem dX2_begin_37 : decode cX2_begin 37 = .ok (.aload_n 0, 1) := by decide +kernel
theorem dX2_begin_38 : decode cX2_begin 38 = .ok (.iconst 0, 1) := by decide +kernel
theorem dX2_begin_39 : decode cX2_begin 39 = .ok (.putfield 22, 3) := by decide +kernel
theorem dX2_begin_42 : decode cX2_begin 42 = .ok (.aload_n 0, 1) := by decide +kernel
theorem dX2_begin_43 : decode cX2_begin 43 = .ok (.iconst 0, 1) := by decide +kernel
theorem dX2_begin_44 : decode cX2_begin 44 = .ok (.putfield 25, 3) := by decide +kernel
theorem dX2_begin_47 : decode cX2_begin 47 = .ok (.return_, 1) := by decide +kernel
theorem dX2_copyFrom_0 : decode cX2_copyFrom 0 = .ok (.aload_n 1, 1) := by decide +kernel
theorem dX2_copyFrom_1 : decode cX2_copyFrom 1 = .ok (.getfield 9, 3) := by decide +kernel
theorem dX2_copyFrom_4 : decode cX2_copyFrom 4 = .ok (.iconst 0, 1) := by decide +kernel
theorem dX2_copyFrom_5 : decode cX2_copyFrom 5 = .ok (.aload_n 0, 1) := by decide +kernel
theorem dX2_copyFrom_6 : decode cX2_copyFrom 6 = .ok (.getfield 9, 3) := by decide +kernel
theorem dX2_copyFrom_9 : decode cX2_copyFrom 9 = .ok (.iconst 0, 1) := by decide +kernel
theorem dX2_copyFrom_10 : decode cX2_copyFrom 10 = .ok (.iconst 5, 1) := by decide +kernel
theorem dX2_copyFrom_11 : decode cX2_copyFrom 11 = .ok (.invokestatic 28, 3) := by decide +kernel
theorem dX2_copyFrom_14 : decode cX2_copyFrom 14 = .ok (.aload_n 0, 1) := by decide +kernel
theorem dX2_copyFrom_15 : decode cX2_copyFrom 15 = .ok (.aload_n 1, 1) := by decide +kernel
theorem dX2_copyFrom_16 : decode cX2_copyFrom 16 = .ok (.getfield 15, 3) := by decide +kernel
theorem dX2_copyFrom_19 : decode cX2_copyFrom 19 = .ok (.putfield 15, 3) := by decide +kernel
theorem dX2_copyFrom_22 : decode cX2_copyFrom 22 = .ok (.aload_n 0, 1) := by decide +kernel
theorem dX2_copyFrom_23 : decode cX2_copyFrom 23 = .ok (.aload_n 1, 1) := by decide +kernel
theorem dX2_copyFrom_24 : decode cX2_copyFrom 24 = .ok (.getfield 34, 3) := by decide +kernel
theorem dX2_copyFrom_27 : decode cX2_copyFrom 27 = .ok (.putfield 34, 3) := by decide +kernel
theorem dX2_copyFrom_30 : decode cX2_copyFrom 30 = .ok (.aload_n 0, 1) := by decide +kernel
theorem dX2_copyFrom_31 : decode cX2_copyFrom 31 = .ok (.aload_n 1, 1) := by decide +kernel
theorem dX2_copyFrom_32 : decode cX2_copyFrom 32 = .ok (.getfield 37, 3) := by decide +kernel
theorem dX2_copyFrom_35 : decode cX2_copyFrom 35 = .ok (.putfield 37, 3) := by decide +kernel
theorem dX2_copyFrom_38 : decode cX2_copyFrom 38 = .ok (.aload_n 0, 1) := by decide +kernel
theorem dX2_copyFrom_39 : decode cX2_copyFrom 39 = .ok (.aload_n 1, 1) := by decide +kernel
theorem dX2_copyFrom_40 : decode cX2_copyFrom 40 = .ok (.getfield 19, 3) := by decide +kernel
theorem dX2_copyFrom_43 : decode cX2_copyFrom 43 = .ok (.putfield 19, 3) := by decide +kernel
theorem dX2_copyFrom_46 : decode cX2_copyFrom 46 = .ok (.aload_n 0, 1) := by decide +kernel
theorem dX2_copyFrom_47 : decode cX2_copyFrom 47 = .ok (.aload_n 1, 1) := by decide +kernel
theorem dX2_copyFrom_48 : decode cX2_copyFrom 48 = .ok (.getfield 22, 3) := by decide +kernel
theorem dX2_copyFrom_51 : decode cX2_copyFrom 51 = .ok (.putfield 22, 3) := by decide +kernel
theorem dX2_copyFrom_54 : decode cX2_copyFrom 54 = .ok (.aload_n 0, 1) := by decide +kernel
theorem dX2_copyFrom_55 : decode cX2_copyFrom 55 = .ok (.aload_n 1, 1) := by decide +kernel
theorem dX2_copyFrom_56 : decode cX2_copyFrom 56 = .ok (.getfield 25, 3) := by decide +kernel
theorem dX2_copyFrom_59 : decode cX2_copyFrom 59 = .ok (.putfield 25, 3) := by decide +kernel
theorem dX2_copyFrom_62 : decode cX2_copyFrom 62 = .ok (.return_, 1) := by decide +kernel
theorem dX2_part_0 : decode cX2_part 0 = .ok (.iload_n 1, 1) := by decide +kernel
theorem dX2_part_1 : decode cX2_part 1 = .ok (.tableswitch 60 0 4 #[35, 40, 45, 50, 55], 35) := by decide +kernel
theorem dX2_part_36 : decode cX2_part 36 = .ok (.aload_n 0, 1) := by decide +kernel
theorem dX2_part_37 : decode cX2_part 37 = .ok (.getfield 15, 3) := by decide +kernel
theorem dX2_part_40 : decode cX2_part 40 = .ok (.ireturn, 1) := by decide +kernel
theorem dX2_part_41 : decode cX2_part 41 = .ok (.aload_n 0, 1) := by decide +kernel
theorem dX2_part_42 : decode cX2_part 42 = .ok (.getfield 34, 3) := by decide +kernel
theorem dX2_part_45 : decode cX2_part 45 = .ok (.ireturn, 1) := by decide +kernel
theorem dX2_part_46 : decode cX2_part 46 = .ok (.aload_n 0, 1) := by decide +kernel
theorem dX2_part_47 : decode cX2_part 47 = .ok (.getfield 37, 3) := by decide +kernel
theorem dX2_part_50 : decode cX2_part 50 = .ok (.ireturn, 1) := by decide +kernel
theorem dX2_part_51 : decode cX2_part 51 = .ok (.aload_n 0, 1) := by decide +kernel
theorem dX2_part_52 : decode cX2_part 52 = .ok (.getfield 19, 3) := by decide +kernel
theorem dX2_part_55 : decode cX2_part 55 = .ok (.ireturn, 1) := by decide +kernel
theorem dX2_part_56 : decode cX2_part 56 = .ok (.aload_n 0, 1) := by decide +kernel
theorem dX2_part_57 : decode cX2_part 57 = .ok (.getfield 22, 3) := by decide +kernel
theorem dX2_part_60 : decode cX2_part 60 = .ok (.ireturn, 1) := by decide +kernel
theorem dX2_part_61 : decode cX2_part 61 = .ok (.aload_n 0, 1) := by decide +kernel
theorem dX2_part_62 : decode cX2_part 62 = .ok (.getfield 25, 3) := by decide +kernel
theorem dX2_part_65 : decode cX2_part 65 = .ok (.ireturn, 1) := by decide +kernel
theorem dX2_has_0 : decode cX2_has 0 = .ok (.aload_n 0, 1) := by decide +kernel
theorem dX2_has_1 : decode cX2_has 1 = .ok (.getfield 25, 3) := by decide +kernel
theorem dX2_has_4 : decode cX2_has 4 = .ok (.iload_n 1, 1) := by decide +kernel
theorem dX2_has_5 : decode cX2_has 5 = .ok (.ishr, 1) := by decide +kernel
theorem dX2_has_6 : decode cX2_has 6 = .ok (.iconst 1, 1) := by decide +kernel
theorem dX2_has_7 : decode cX2_has 7 = .ok (.iand, 1) := by decide +kernel
theorem dX2_has_8 : decode cX2_has 8 = .ok (.ifCond .eq 7, 3) := by decide +kernel
theorem dX2_has_11 : decode cX2_has 11 = .ok (.iconst 1, 1) := by decide +kernel
theorem dX2_has_12 : decode cX2_has 12 = .ok (.goto 4, 3) := by decide +kernel
theorem dX2_has_15 : decode cX2_has 15 = .ok (.iconst 0, 1) := by decide +kernel
theorem dX2_has_16 : decode cX2_has 16 = .ok (.ireturn, 1) := by decide +kernel
theorem dX2_price_0 : decode cX2_price 0 = .ok (.iload_n 2, 1) := by decide +kernel
theorem dX2_price_1 : decode cX2_price 1 = .ok (.ifCond .ne 9, 3) := by decide +kernel
theorem dX2_price_4 : decode cX2_price 4 = .ok (.getstatic 40, 3) := by decide +kernel
theorem dX2_price_7 : decode cX2_price 7 = .ok (.goto 6, 3) := by decide +kernel
theorem dX2_price_10 : decode cX2_price 10 = .ok (.getstatic 43, 3) := by decide +kernel
theorem dX2_price_13 : decode cX2_price 13 = .ok (.astore_n 3, 1) := by decide +kernel
theorem dX2_price_14 : decode cX2_price 14 = .ok (.iload_n 2, 1) := by decide +kernel
theorem dX2_price_15 : decode cX2_price 15 = .ok (.ifCond .ne 8, 3) := by decide +kernel
theorem dX2_price_18 : decode cX2_price 18 = .ok (.bipush 6, 2) := by decide +kernel
theorem dX2_price_20 : decode cX2_price 20 = .ok (.goto 5, 3) := by decide +kernel
theorem dX2_price_23 : decode cX2_price 23 = .ok (.bipush 7, 2) := by decide +kernel
theorem dX2_price_25 : decode cX2_price 25 = .ok (.istore 4, 2) := by decide +kernel
theorem dX2_price_27 : decode cX2_price 27 = .ok (.iload_n 1, 1) := by decide +kernel
theorem dX2_price_28 : decode cX2_price 28 = .ok (.iload 4, 2) := by decide +kernel
theorem dX2_price_30 : decode cX2_price 30 = .ok (.if_icmp .ne 7, 3) := by decide +kernel
theorem dX2_price_33 : decode cX2_price 33 = .ok (.iconst 0, 1) := by decide +kernel
theorem dX2_price_34 : decode cX2_price 34 = .ok (.goto 12, 3) := by decide +kernel
theorem dX2_price_37 : decode cX2_price 37 = .ok (.aload_n 0, 1) := by decide +kernel
theorem dX2_price_38 : decode cX2_price 38 = .ok (.getfield 25, 3) := by decide +kernel
theorem dX2_price_41 : decode cX2_price 41 = .ok (.iload 4, 2) := by decide +kernel
theorem dX2_price_43 : decode cX2_price 43 = .ok (.ishr, 1) := by decide +kernel
theorem dX2_price_44 : decode cX2_price 44 = .ok (.iconst 1, 1) := by decide +kernel
theorem dX2_price_45 : decode cX2_price 45 = .ok (.iand, 1) := by decide +kernel
theorem dX2_price_46 : decode cX2_price 46 = .ok (.istore 5, 2) := by decide +kernel
theorem dX2_price_48 : decode cX2_price 48 = .ok (.iconst 0, 1) := by decide +kernel
theorem dX2_price_49 : decode cX2_price 49 = .ok (.aload_n 3, 1) := by decide +kernel
theorem dX2_price_50 : decode cX2_price 50 = .ok (.iload_n 1, 1) := by decide +kernel
theorem dX2_price_51 : decode cX2_price 51 = .ok (.iconst 1, 1) := by decide +kernel
theorem dX2_price_52 : decode cX2_price 52 = .ok (.iadd, 1) := by decide +kernel
theorem dX2_price_53 : decode cX2_price 53 = .ok (.iaload, 1) := by decide +kernel
theorem dX2_price_54 : decode cX2_price 54 = .ok (.iload 5, 2) := by decide +kernel
theorem dX2_price_56 : decode cX2_price 56 = .ok (.isub, 1) := by decide +kernel
theorem dX2_price_57 : decode cX2_price 57 = .ok (.invokestatic 46, 3) := by decide +kernel
theorem dX2_price_60 : decode cX2_price 60 = .ok (.ireturn, 1) := by decide +kernel
theorem dX2_canAfford_0 : decode cX2_canAfford 0 = .ok (.aload_n 0, 1) := by decide +kernel
theorem dX2_canAfford_1 : decode cX2_canAfford 1 = .ok (.getfield 9, 3) := by decide +kernel
theorem dX2_canAfford_4 : decode cX2_canAfford 4 = .ok (.iconst 0, 1) := by decide +kernel
theorem dX2_canAfford_5 : decode cX2_canAfford 5 = .ok (.iaload, 1) := by decide +kernel
theorem dX2_canAfford_6 : decode cX2_canAfford 6 = .ok (.aload_n 0, 1) := by decide +kernel
theorem dX2_canAfford_7 : decode cX2_canAfford 7 = .ok (.iload_n 1, 1) := by decide +kernel
theorem dX2_canAfford_8 : decode cX2_canAfford 8 = .ok (.iconst 0, 1) := by decide +kernel
theorem dX2_canAfford_9 : decode cX2_canAfford 9 = .ok (.invokevirtual 52, 3) := by decide +kernel
theorem dX2_canAfford_12 : decode cX2_canAfford 12 = .ok (.if_icmp .lt 22, 3) := by decide +kernel
theorem dX2_canAfford_15 : decode cX2_canAfford 15 = .ok (.aload_n 0, 1) := by decide +kernel
theorem dX2_canAfford_16 : decode cX2_canAfford 16 = .ok (.getfield 9, 3) := by decide +kernel
theorem dX2_canAfford_19 : decode cX2_canAfford 19 = .ok (.iconst 1, 1) := by decide +kernel
theorem dX2_canAfford_20 : decode cX2_canAfford 20 = .ok (.iaload, 1) := by decide +kernel
theorem dX2_canAfford_21 : decode cX2_canAfford 21 = .ok (.aload_n 0, 1) := by decide +kernel
theorem dX2_canAfford_22 : decode cX2_canAfford 22 = .ok (.iload_n 1, 1) := by decide +kernel
theorem dX2_canAfford_23 : decode cX2_canAfford 23 = .ok (.iconst 1, 1) := by decide +kernel
theorem dX2_canAfford_24 : decode cX2_canAfford 24 = .ok (.invokevirtual 52, 3) := by decide +kernel
theorem dX2_canAfford_27 : decode cX2_canAfford 27 = .ok (.if_icmp .lt 7, 3) := by decide +kernel
theorem dX2_canAfford_30 : decode cX2_canAfford 30 = .ok (.iconst 1, 1) := by decide +kernel
theorem dX2_canAfford_31 : decode cX2_canAfford 31 = .ok (.goto 4, 3) := by decide +kernel
theorem dX2_canAfford_34 : decode cX2_canAfford 34 = .ok (.iconst 0, 1) := by decide +kernel
theorem dX2_canAfford_35 : decode cX2_canAfford 35 = .ok (.ireturn, 1) := by decide +kernel
theorem dX2_payFor_0 : decode cX2_payFor 0 = .ok (.aload_n 0, 1) := by decide +kernel
theorem dX2_payFor_1 : decode cX2_payFor 1 = .ok (.getfield 9, 3) := by decide +kernel
theorem dX2_payFor_4 : decode cX2_payFor 4 = .ok (.iconst 0, 1) := by decide +kernel
theorem dX2_payFor_5 : decode cX2_payFor 5 = .ok (.dup2, 1) := by decide +kernel
theorem dX2_payFor_6 : decode cX2_payFor 6 = .ok (.iaload, 1) := by decide +kernel
theorem dX2_payFor_7 : decode cX2_payFor 7 = .ok (.aload_n 0, 1) := by decide +kernel
theorem dX2_payFor_8 : decode cX2_payFor 8 = .ok (.iload_n 1, 1) := by decide +kernel
theorem dX2_payFor_9 : decode cX2_payFor 9 = .ok (.iconst 0, 1) := by decide +kernel
theorem dX2_payFor_10 : decode cX2_payFor 10 = .ok (.invokevirtual 52, 3) := by decide +kernel
theorem dX2_payFor_13 : decode cX2_payFor 13 = .ok (.isub, 1) := by decide +kernel
theorem dX2_payFor_14 : decode cX2_payFor 14 = .ok (.iastore, 1) := by decide +kernel
theorem dX2_payFor_15 : decode cX2_payFor 15 = .ok (.aload_n 0, 1) := by decide +kernel
theorem dX2_payFor_16 : decode cX2_payFor 16 = .ok (.getfield 9, 3) := by decide +kernel
theorem dX2_payFor_19 : decode cX2_payFor 19 = .ok (.iconst 1, 1) := by decide +kernel
theorem dX2_payFor_20 : decode cX2_payFor 20 = .ok (.dup2, 1) := by decide +kernel
theorem dX2_payFor_21 : decode cX2_payFor 21 = .ok (.iaload, 1) := by decide +kernel
theorem dX2_payFor_22 : decode cX2_payFor 22 = .ok (.aload_n 0, 1) := by decide +kernel
theorem dX2_payFor_23 : decode cX2_payFor 23 = .ok (.iload_n 1, 1) := by decide +kernel
theorem dX2_payFor_24 : decode cX2_payFor 24 = .ok (.iconst 1, 1) := by decide +kernel
theorem dX2_payFor_25 : decode cX2_payFor 25 = .ok (.invokevirtual 52, 3) := by decide +kernel
theorem dX2_payFor_28 : decode cX2_payFor 28 = .ok (.isub, 1) := by decide +kernel
theorem dX2_payFor_29 : decode cX2_payFor 29 = .ok (.iastore, 1) := by decide +kernel
theorem dX2_payFor_30 : decode cX2_payFor 30 = .ok (.return_, 1) := by decide +kernel
theorem dX2_canGrow_0 : decode cX2_canGrow 0 = .ok (.aload_n 0, 1) := by decide +kernel
theorem dX2_canGrow_1 : decode cX2_canGrow 1 = .ok (.iconst 4, 1) := by decide +kernel
theorem dX2_canGrow_2 : decode cX2_canGrow 2 = .ok (.invokevirtual 55, 3) := by decide +kernel
theorem dX2_canGrow_5 : decode cX2_canGrow 5 = .ok (.ifCond .eq 12, 3) := by decide +kernel
theorem dX2_canGrow_8 : decode cX2_canGrow 8 = .ok (.aload_n 0, 1) := by decide +kernel
theorem dX2_canGrow_9 : decode cX2_canGrow 9 = .ok (.getfield 19, 3) := by decide +kernel
theorem dX2_canGrow_12 : decode cX2_canGrow 12 = .ok (.iconst 1, 1) := by decide +kernel
theorem dX2_canGrow_13 : decode cX2_canGrow 13 = .ok (.iadd, 1) := by decide +kernel
theorem dX2_canGrow_14 : decode cX2_canGrow 14 = .ok (.goto 7, 3) := by decide +kernel
theorem dX2_canGrow_17 : decode cX2_canGrow 17 = .ok (.aload_n 0, 1) := by decide +kernel
theorem dX2_canGrow_18 : decode cX2_canGrow 18 = .ok (.getfield 19, 3) := by decide +kernel
theorem dX2_canGrow_21 : decode cX2_canGrow 21 = .ok (.istore_n 1, 1) := by decide +kernel
theorem dX2_canGrow_22 : decode cX2_canGrow 22 = .ok (.aload_n 0, 1) := by decide +kernel
theorem dX2_canGrow_23 : decode cX2_canGrow 23 = .ok (.getfield 15, 3) := by decide +kernel
theorem dX2_canGrow_26 : decode cX2_canGrow 26 = .ok (.iconst 5, 1) := by decide +kernel
theorem dX2_canGrow_27 : decode cX2_canGrow 27 = .ok (.if_icmp .ge 15, 3) := by decide +kernel
theorem dX2_canGrow_30 : decode cX2_canGrow 30 = .ok (.aload_n 0, 1) := by decide +kernel
theorem dX2_canGrow_31 : decode cX2_canGrow 31 = .ok (.getfield 15, 3) := by decide +kernel
theorem dX2_canGrow_34 : decode cX2_canGrow 34 = .ok (.iload_n 1, 1) := by decide +kernel
theorem dX2_canGrow_35 : decode cX2_canGrow 35 = .ok (.if_icmp .ge 7, 3) := by decide +kernel
theorem dX2_canGrow_38 : decode cX2_canGrow 38 = .ok (.iconst 1, 1) := by decide +kernel
theorem dX2_canGrow_39 : decode cX2_canGrow 39 = .ok (.goto 4, 3) := by decide +kernel
theorem dX2_canGrow_42 : decode cX2_canGrow 42 = .ok (.iconst 0, 1) := by decide +kernel
theorem dX2_canGrow_43 : decode cX2_canGrow 43 = .ok (.ireturn, 1) := by decide +kernel
theorem dX2_grow_0 : decode cX2_grow 0 = .ok (.aload_n 0, 1) := by decide +kernel
theorem dX2_grow_1 : decode cX2_grow 1 = .ok (.dup, 1) := by decide +kernel
theorem dX2_grow_2 : decode cX2_grow 2 = .ok (.getfield 15, 3) := by decide +kernel
theorem dX2_grow_5 : decode cX2_grow 5 = .ok (.iconst 1, 1) := by decide +kernel
theorem dX2_grow_6 : decode cX2_grow 6 = .ok (.iadd, 1) := by decide +kernel
theorem dX2_grow_7 : decode cX2_grow 7 = .ok (.putfield 15, 3) := by decide +kernel
theorem dX2_grow_10 : decode cX2_grow 10 = .ok (.aload_n 0, 1) := by decide +kernel
theorem dX2_grow_11 : decode cX2_grow 11 = .ok (.dup, 1) := by decide +kernel
theorem dX2_grow_12 : decode cX2_grow 12 = .ok (.getfield 34, 3) := by decide +kernel
theorem dX2_grow_15 : decode cX2_grow 15 = .ok (.iconst 1, 1) := by decide +kernel
theorem dX2_grow_16 : decode cX2_grow 16 = .ok (.iadd, 1) := by decide +kernel
theorem dX2_grow_17 : decode cX2_grow 17 = .ok (.putfield 34, 3) := by decide +kernel
theorem dX2_grow_20 : decode cX2_grow 20 = .ok (.return_, 1) := by decide +kernel
theorem dX2_startRound_0 : decode cX2_startRound 0 = .ok (.aload_n 0, 1) := by decide +kernel
theorem dX2_startRound_1 : decode cX2_startRound 1 = .ok (.iconst 0, 1) := by decide +kernel
theorem dX2_startRound_2 : decode cX2_startRound 2 = .ok (.putfield 34, 3) := by decide +kernel
theorem dX2_startRound_5 : decode cX2_startRound 5 = .ok (.aload_n 0, 1) := by decide +kernel
theorem dX2_startRound_6 : decode cX2_startRound 6 = .ok (.aload_n 0, 1) := by decide +kernel
theorem dX2_startRound_7 : decode cX2_startRound 7 = .ok (.getfield 15, 3) := by decide +kernel
theorem dX2_startRound_10 : decode cX2_startRound 10 = .ok (.putfield 37, 3) := by decide +kernel
theorem dX2_startRound_13 : decode cX2_startRound 13 = .ok (.aload_n 0, 1) := by decide +kernel
theorem dX2_startRound_14 : decode cX2_startRound 14 = .ok (.iconst 5, 1) := by decide +kernel
theorem dX2_startRound_15 : decode cX2_startRound 15 = .ok (.invokevirtual 55, 3) := by decide +kernel
theorem dX2_startRound_18 : decode cX2_startRound 18 = .ok (.ifCond .eq 13, 3) := by decide +kernel
theorem dX2_startRound_21 : decode cX2_startRound 21 = .ok (.aload_n 0, 1) := by decide +kernel
theorem dX2_startRound_22 : decode cX2_startRound 22 = .ok (.getfield 9, 3) := by decide +kernel
theorem dX2_startRound_25 : decode cX2_startRound 25 = .ok (.iconst 4, 1) := by decide +kernel
theorem dX2_startRound_26 : decode cX2_startRound 26 = .ok (.dup2, 1) := by decide +kernel
theorem dX2_startRound_27 : decode cX2_startRound 27 = .ok (.iaload, 1) := by decide +kernel
theorem dX2_startRound_28 : decode cX2_startRound 28 = .ok (.iconst 1, 1) := by decide +kernel
theorem dX2_startRound_29 : decode cX2_startRound 29 = .ok (.iadd, 1) := by decide +kernel
theorem dX2_startRound_30 : decode cX2_startRound 30 = .ok (.iastore, 1) := by decide +kernel
theorem dX2_startRound_31 : decode cX2_startRound 31 = .ok (.return_, 1) := by decide +kernel
theorem dX2_endRound_0 : decode cX2_endRound 0 = .ok (.iload_n 1, 1) := by decide +kernel
theorem dX2_endRound_1 : decode cX2_endRound 1 = .ok (.ifCond .eq 11, 3) := by decide +kernel
theorem dX2_endRound_4 : decode cX2_endRound 4 = .ok (.aload_n 0, 1) := by decide +kernel
theorem dX2_endRound_5 : decode cX2_endRound 5 = .ok (.invokevirtual 59, 3) := by decide +kernel
theorem dX2_endRound_8 : decode cX2_endRound 8 = .ok (.aload_n 0, 1) := by decide +kernel
theorem dX2_endRound_9 : decode cX2_endRound 9 = .ok (.invokevirtual 62, 3) := by decide +kernel
theorem dX2_endRound_12 : decode cX2_endRound 12 = .ok (.aload_n 0, 1) := by decide +kernel
theorem dX2_endRound_13 : decode cX2_endRound 13 = .ok (.getfield 9, 3) := by decide +kernel
theorem dX2_endRound_16 : decode cX2_endRound 16 = .ok (.iconst 2, 1) := by decide +kernel
theorem dX2_endRound_17 : decode cX2_endRound 17 = .ok (.iaload, 1) := by decide +kernel
theorem dX2_endRound_18 : decode cX2_endRound 18 = .ok (.iconst 3, 1) := by decide +kernel
theorem dX2_endRound_19 : decode cX2_endRound 19 = .ok (.if_icmp .le 18, 3) := by decide +kernel
theorem dX2_endRound_22 : decode cX2_endRound 22 = .ok (.aload_n 0, 1) := by decide +kernel
theorem dX2_endRound_23 : decode cX2_endRound 23 = .ok (.iconst 2, 1) := by decide +kernel
theorem dX2_endRound_24 : decode cX2_endRound 24 = .ok (.invokevirtual 55, 3) := by decide +kernel
theorem dX2_endRound_27 : decode cX2_endRound 27 = .ok (.ifCond .ne 10, 3) := by decide +kernel
theorem dX2_endRound_30 : decode cX2_endRound 30 = .ok (.aload_n 0, 1) := by decide +kernel
theorem dX2_endRound_31 : decode cX2_endRound 31 = .ok (.getfield 9, 3) := by decide +kernel
theorem dX2_endRound_34 : decode cX2_endRound 34 = .ok (.iconst 2, 1) := by decide +kernel
theorem dX2_endRound_35 : decode cX2_endRound 35 = .ok (.iconst 3, 1) := by decide +kernel
theorem dX2_endRound_36 : decode cX2_endRound 36 = .ok (.iastore, 1) := by decide +kernel
theorem dX2_endRound_37 : decode cX2_endRound 37 = .ok (.return_, 1) := by decide +kernel
theorem dX2_feed_0 : decode cX2_feed 0 = .ok (.aload_n 0, 1) := by decide +kernel
theorem dX2_feed_1 : decode cX2_feed 1 = .ok (.invokevirtual 65, 3) := by decide +kernel
theorem dX2_feed_4 : decode cX2_feed 4 = .ok (.istore_n 1, 1) := by decide +kernel
theorem dX2_feed_5 : decode cX2_feed 5 = .ok (.iload_n 1, 1) := by decide +kernel
theorem dX2_feed_6 : decode cX2_feed 6 = .ok (.aload_n 0, 1) := by decide +kernel
theorem dX2_feed_7 : decode cX2_feed 7 = .ok (.getfield 9, 3) := by decide +kernel
theorem dX2_feed_10 : decode cX2_feed 10 = .ok (.iconst 4, 1) := by decide +kernel
theorem dX2_feed_11 : decode cX2_feed 11 = .ok (.iaload, 1) := by decide +kernel
theorem dX2_feed_12 : decode cX2_feed 12 = .ok (.invokestatic 69, 3) := by decide +kernel
theorem dX2_feed_15 : decode cX2_feed 15 = .ok (.istore_n 2, 1) := by decide +kernel
theorem dX2_feed_16 : decode cX2_feed 16 = .ok (.aload_n 0, 1) := by decide +kernel
theorem dX2_feed_17 : decode cX2_feed 17 = .ok (.getfield 9, 3) := by decide +kernel
theorem dX2_feed_20 : decode cX2_feed 20 = .ok (.iconst 4, 1) := by decide +kernel
theorem dX2_feed_21 : decode cX2_feed 21 = .ok (.dup2, 1) := by decide +kernel
theorem dX2_feed_22 : decode cX2_feed 22 = .ok (.iaload, 1) := by decide +kernel
theorem dX2_feed_23 : decode cX2_feed 23 = .ok (.iload_n 2, 1) := by decide +kernel
theorem dX2_feed_24 : decode cX2_feed 24 = .ok (.isub, 1) := by decide +kernel
theorem dX2_feed_25 : decode cX2_feed 25 = .ok (.iastore, 1) := by decide +kernel
theorem dX2_feed_26 : decode cX2_feed 26 = .ok (.iload_n 1, 1) := by decide +kernel
theorem dX2_feed_27 : decode cX2_feed 27 = .ok (.iload_n 2, 1) := by decide +kernel
theorem dX2_feed_28 : decode cX2_feed 28 = .ok (.isub, 1) := by decide +kernel
theorem dX2_feed_29 : decode cX2_feed 29 = .ok (.istore_n 1, 1) := by decide +kernel
theorem dX2_feed_30 : decode cX2_feed 30 = .ok (.iload_n 1, 1) := by decide +kernel
theorem dX2_feed_31 : decode cX2_feed 31 = .ok (.aload_n 0, 1) := by decide +kernel
theorem dX2_feed_32 : decode cX2_feed 32 = .ok (.getfield 9, 3) := by decide +kernel
theorem dX2_feed_35 : decode cX2_feed 35 = .ok (.iconst 2, 1) := by decide +kernel
theorem dX2_feed_36 : decode cX2_feed 36 = .ok (.iaload, 1) := by decide +kernel
theorem dX2_feed_37 : decode cX2_feed 37 = .ok (.invokestatic 69, 3) := by decide +kernel
theorem dX2_feed_40 : decode cX2_feed 40 = .ok (.istore_n 3, 1) := by decide +kernel
theorem dX2_feed_41 : decode cX2_feed 41 = .ok (.aload_n 0, 1) := by decide +kernel
theorem dX2_feed_42 : decode cX2_feed 42 = .ok (.getfield 9, 3) := by decide +kernel
theorem dX2_feed_45 : decode cX2_feed 45 = .ok (.iconst 2, 1) := by decide +kernel
theorem dX2_feed_46 : decode cX2_feed 46 = .ok (.dup2, 1) := by decide +kernel
theorem dX2_feed_47 : decode cX2_feed 47 = .ok (.iaload, 1) := by decide +kernel
theorem dX2_feed_48 : decode cX2_feed 48 = .ok (.iload_n 3, 1) := by decide +kernel
theorem dX2_feed_49 : decode cX2_feed 49 = .ok (.isub, 1) := by decide +kernel
theorem dX2_feed_50 : decode cX2_feed 50 = .ok (.iastore, 1) := by decide +kernel
theorem dX2_feed_51 : decode cX2_feed 51 = .ok (.iload_n 1, 1) := by decide +kernel
theorem dX2_feed_52 : decode cX2_feed 52 = .ok (.iload_n 3, 1) := by decide +kernel
theorem dX2_feed_53 : decode cX2_feed 53 = .ok (.isub, 1) := by decide +kernel
theorem dX2_feed_54 : decode cX2_feed 54 = .ok (.istore_n 1, 1) := by decide +kernel
theorem dX2_feed_55 : decode cX2_feed 55 = .ok (.aload_n 0, 1) := by decide +kernel
theorem dX2_feed_56 : decode cX2_feed 56 = .ok (.iconst 3, 1) := by decide +kernel
theorem dX2_feed_57 : decode cX2_feed 57 = .ok (.invokevirtual 55, 3) := by decide +kernel
theorem dX2_feed_60 : decode cX2_feed 60 = .ok (.ifCond .eq 7, 3) := by decide +kernel
theorem dX2_feed_63 : decode cX2_feed 63 = .ok (.iconst 4, 1) := by decide +kernel
theorem dX2_feed_64 : decode cX2_feed 64 = .ok (.goto 4, 3) := by decide +kernel
theorem dX2_feed_67 : decode cX2_feed 67 = .ok (.iconst 2, 1) := by decide +kernel
theorem dX2_feed_68 : decode cX2_feed 68 = .ok (.istore 4, 2) := by decide +kernel
theorem dX2_feed_70 : decode cX2_feed 70 = .ok (.iload_n 1, 1) := by decide +kernel
theorem dX2_feed_71 : decode cX2_feed 71 = .ok (.ifCond .le 30, 3) := by decide +kernel
theorem dX2_feed_74 : decode cX2_feed 74 = .ok (.aload_n 0, 1) := by decide +kernel
theorem dX2_feed_75 : decode cX2_feed 75 = .ok (.getfield 9, 3) := by decide +kernel
theorem dX2_feed_78 : decode cX2_feed 78 = .ok (.iconst 3, 1) := by decide +kernel
theorem dX2_feed_79 : decode cX2_feed 79 = .ok (.iaload, 1) := by decide +kernel
theorem dX2_feed_80 : decode cX2_feed 80 = .ok (.ifCond .le 21, 3) := by decide +kernel
theorem dX2_feed_83 : decode cX2_feed 83 = .ok (.aload_n 0, 1) := by decide +kernel
theorem dX2_feed_84 : decode cX2_feed 84 = .ok (.getfield 9, 3) := by decide +kernel
theorem dX2_feed_87 : decode cX2_feed 87 = .ok (.iconst 3, 1) := by decide +kernel
theorem dX2_feed_88 : decode cX2_feed 88 = .ok (.dup2, 1) := by decide +kernel
theorem dX2_feed_89 : decode cX2_feed 89 = .ok (.iaload, 1) := by decide +kernel
theorem dX2_feed_90 : decode cX2_feed 90 = .ok (.iconst 1, 1) := by decide +kernel
theorem dX2_feed_91 : decode cX2_feed 91 = .ok (.isub, 1) := by decide +kernel
theorem dX2_feed_92 : decode cX2_feed 92 = .ok (.iastore, 1) := by decide +kernel
theorem dX2_feed_93 : decode cX2_feed 93 = .ok (.iload_n 1, 1) := by decide +kernel
theorem dX2_feed_94 : decode cX2_feed 94 = .ok (.iload 4, 2) := by decide +kernel
theorem dX2_feed_96 : decode cX2_feed 96 = .ok (.isub, 1) := by decide +kernel
theorem dX2_feed_97 : decode cX2_feed 97 = .ok (.istore_n 1, 1) := by decide +kernel
theorem dX2_feed_98 : decode cX2_feed 98 = .ok (.goto (-28), 3) := by decide +kernel

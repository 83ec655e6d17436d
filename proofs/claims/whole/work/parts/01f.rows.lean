theorem dX6_actsElse_133 : decode cX6_actsElse 133 = .ok (.irem, 1) := by decide +kernel
theorem dX6_actsElse_134 : decode cX6_actsElse 134 = .ok (.iconst 1, 1) := by decide +kernel
theorem dX6_actsElse_135 : decode cX6_actsElse 135 = .ok (.invokevirtual 68, 3) := by decide +kernel
theorem dX6_actsElse_138 : decode cX6_actsElse 138 = .ok (.return_, 1) := by decide +kernel
theorem dX6_comes_0 : decode cX6_comes 0 = .ok (.aload_n 0, 1) := by decide +kernel
theorem dX6_comes_1 : decode cX6_comes 1 = .ok (.getfield 7, 3) := by decide +kernel
theorem dX6_comes_4 : decode cX6_comes 4 = .ok (.iconst 3, 1) := by decide +kernel
theorem dX6_comes_5 : decode cX6_comes 5 = .ok (.iaload, 1) := by decide +kernel
theorem dX6_comes_6 : decode cX6_comes 6 = .ok (.istore_n 3, 1) := by decide +kernel
theorem dX6_comes_7 : decode cX6_comes 7 = .ok (.aload_n 0, 1) := by decide +kernel
theorem dX6_comes_8 : decode cX6_comes 8 = .ok (.getfield 7, 3) := by decide +kernel
theorem dX6_comes_11 : decode cX6_comes 11 = .ok (.iload_n 1, 1) := by decide +kernel
theorem dX6_comes_12 : decode cX6_comes 12 = .ok (.iconst 1, 1) := by decide +kernel
theorem dX6_comes_13 : decode cX6_comes 13 = .ok (.invokestatic 65, 3) := by decide +kernel
theorem dX6_comes_16 : decode cX6_comes 16 = .ok (.iaload, 1) := by decide +kernel
theorem dX6_comes_17 : decode cX6_comes 17 = .ok (.ifCond .ne 14, 3) := by decide +kernel
theorem dX6_comes_20 : decode cX6_comes 20 = .ok (.aload_n 0, 1) := by decide +kernel
theorem dX6_comes_21 : decode cX6_comes 21 = .ok (.getfield 7, 3) := by decide +kernel
theorem dX6_comes_24 : decode cX6_comes 24 = .ok (.iload_n 1, 1) := by decide +kernel
theorem dX6_comes_25 : decode cX6_comes 25 = .ok (.iconst 2, 1) := by decide +kernel
theorem dX6_comes_26 : decode cX6_comes 26 = .ok (.invokestatic 65, 3) := by decide +kernel
theorem dX6_comes_29 : decode cX6_comes 29 = .ok (.iload_n 3, 1) := by decide +kernel
theorem dX6_comes_30 : decode cX6_comes 30 = .ok (.iastore, 1) := by decide +kernel
theorem dX6_comes_31 : decode cX6_comes 31 = .ok (.aload_n 0, 1) := by decide +kernel
theorem dX6_comes_32 : decode cX6_comes 32 = .ok (.getfield 7, 3) := by decide +kernel
theorem dX6_comes_35 : decode cX6_comes 35 = .ok (.iload_n 1, 1) := by decide +kernel
theorem dX6_comes_36 : decode cX6_comes 36 = .ok (.iconst 1, 1) := by decide +kernel
theorem dX6_comes_37 : decode cX6_comes 37 = .ok (.invokestatic 65, 3) := by decide +kernel
theorem dX6_comes_40 : decode cX6_comes 40 = .ok (.dup2, 1) := by decide +kernel
theorem dX6_comes_41 : decode cX6_comes 41 = .ok (.iaload, 1) := by decide +kernel
theorem dX6_comes_42 : decode cX6_comes 42 = .ok (.iconst 1, 1) := by decide +kernel
theorem dX6_comes_43 : decode cX6_comes 43 = .ok (.iadd, 1) := by decide +kernel
theorem dX6_comes_44 : decode cX6_comes 44 = .ok (.iastore, 1) := by decide +kernel
theorem dX6_comes_45 : decode cX6_comes 45 = .ok (.aload_n 0, 1) := by decide +kernel
theorem dX6_comes_46 : decode cX6_comes 46 = .ok (.iload_n 3, 1) := by decide +kernel
theorem dX6_comes_47 : decode cX6_comes 47 = .ok (.bipush 7, 2) := by decide +kernel
theorem dX6_comes_49 : decode cX6_comes 49 = .ok (.iconst (-1), 1) := by decide +kernel
theorem dX6_comes_50 : decode cX6_comes 50 = .ok (.invokevirtual 68, 3) := by decide +kernel
theorem dX6_comes_53 : decode cX6_comes 53 = .ok (.aload_n 0, 1) := by decide +kernel
theorem dX6_comes_54 : decode cX6_comes 54 = .ok (.iload_n 3, 1) := by decide +kernel
theorem dX6_comes_55 : decode cX6_comes 55 = .ok (.iload_n 1, 1) := by decide +kernel
theorem dX6_comes_56 : decode cX6_comes 56 = .ok (.iload_n 2, 1) := by decide +kernel
theorem dX6_comes_57 : decode cX6_comes 57 = .ok (.invokevirtual 122, 3) := by decide +kernel
theorem dX6_comes_60 : decode cX6_comes 60 = .ok (.return_, 1) := by decide +kernel
theorem dX6_notes_0 : decode cX6_notes 0 = .ok (.aload_n 0, 1) := by decide +kernel
theorem dX6_notes_1 : decode cX6_notes 1 = .ok (.getfield 7, 3) := by decide +kernel
theorem dX6_notes_4 : decode cX6_notes 4 = .ok (.bipush 85, 2) := by decide +kernel
theorem dX6_notes_6 : decode cX6_notes 6 = .ok (.iaload, 1) := by decide +kernel
theorem dX6_notes_7 : decode cX6_notes 7 = .ok (.bipush 30, 2) := by decide +kernel
theorem dX6_notes_9 : decode cX6_notes 9 = .ok (.if_icmp .ne 44, 3) := by decide +kernel
theorem dX6_notes_12 : decode cX6_notes 12 = .ok (.bipush 86, 2) := by decide +kernel
theorem dX6_notes_14 : decode cX6_notes 14 = .ok (.istore_n 3, 1) := by decide +kernel
theorem dX6_notes_15 : decode cX6_notes 15 = .ok (.iload_n 3, 1) := by decide +kernel
theorem dX6_notes_16 : decode cX6_notes 16 = .ok (.sipush 202, 3) := by decide +kernel
theorem dX6_notes_19 : decode cX6_notes 19 = .ok (.if_icmp .ge 23, 3) := by decide +kernel
theorem dX6_notes_22 : decode cX6_notes 22 = .ok (.aload_n 0, 1) := by decide +kernel
theorem dX6_notes_23 : decode cX6_notes 23 = .ok (.getfield 7, 3) := by decide +kernel
theorem dX6_notes_26 : decode cX6_notes 26 = .ok (.iload_n 3, 1) := by decide +kernel
theorem dX6_notes_27 : decode cX6_notes 27 = .ok (.aload_n 0, 1) := by decide +kernel
theorem dX6_notes_28 : decode cX6_notes 28 = .ok (.getfield 7, 3) := by decide +kernel
theorem dX6_notes_31 : decode cX6_notes 31 = .ok (.iload_n 3, 1) := by decide +kernel
theorem dX6_notes_32 : decode cX6_notes 32 = .ok (.iconst 4, 1) := by decide +kernel
theorem dX6_notes_33 : decode cX6_notes 33 = .ok (.iadd, 1) := by decide +kernel
theorem dX6_notes_34 : decode cX6_notes 34 = .ok (.iaload, 1) := by decide +kernel
theorem dX6_notes_35 : decode cX6_notes 35 = .ok (.iastore, 1) := by decide +kernel
theorem dX6_notes_36 : decode cX6_notes 36 = .ok (.iinc 3 1, 3) := by decide +kernel
theorem dX6_notes_39 : decode cX6_notes 39 = .ok (.goto (-24), 3) := by decide +kernel
theorem dX6_notes_42 : decode cX6_notes 42 = .ok (.aload_n 0, 1) := by decide +kernel
theorem dX6_notes_43 : decode cX6_notes 43 = .ok (.getfield 7, 3) := by decide +kernel
theorem dX6_notes_46 : decode cX6_notes 46 = .ok (.bipush 85, 2) := by decide +kernel
theorem dX6_notes_48 : decode cX6_notes 48 = .ok (.dup2, 1) := by decide +kernel
theorem dX6_notes_49 : decode cX6_notes 49 = .ok (.iaload, 1) := by decide +kernel
theorem dX6_notes_50 : decode cX6_notes 50 = .ok (.iconst 1, 1) := by decide +kernel
theorem dX6_notes_51 : decode cX6_notes 51 = .ok (.isub, 1) := by decide +kernel
theorem dX6_notes_52 : decode cX6_notes 52 = .ok (.iastore, 1) := by decide +kernel
theorem dX6_notes_53 : decode cX6_notes 53 = .ok (.bipush 86, 2) := by decide +kernel
theorem dX6_notes_55 : decode cX6_notes 55 = .ok (.iconst 4, 1) := by decide +kernel
theorem dX6_notes_56 : decode cX6_notes 56 = .ok (.aload_n 0, 1) := by decide +kernel
theorem dX6_notes_57 : decode cX6_notes 57 = .ok (.getfield 7, 3) := by decide +kernel
theorem dX6_notes_60 : decode cX6_notes 60 = .ok (.bipush 85, 2) := by decide +kernel
theorem dX6_notes_62 : decode cX6_notes 62 = .ok (.iaload, 1) := by decide +kernel
theorem dX6_notes_63 : decode cX6_notes 63 = .ok (.imul, 1) := by decide +kernel
theorem dX6_notes_64 : decode cX6_notes 64 = .ok (.iadd, 1) := by decide +kernel
theorem dX6_notes_65 : decode cX6_notes 65 = .ok (.istore_n 3, 1) := by decide +kernel
theorem dX6_notes_66 : decode cX6_notes 66 = .ok (.aload_n 0, 1) := by decide +kernel
theorem dX6_notes_67 : decode cX6_notes 67 = .ok (.getfield 7, 3) := by decide +kernel
theorem dX6_notes_70 : decode cX6_notes 70 = .ok (.iload_n 3, 1) := by decide +kernel
theorem dX6_notes_71 : decode cX6_notes 71 = .ok (.aload_n 0, 1) := by decide +kernel
theorem dX6_notes_72 : decode cX6_notes 72 = .ok (.getfield 7, 3) := by decide +kernel
theorem dX6_notes_75 : decode cX6_notes 75 = .ok (.iconst 2, 1) := by decide +kernel
theorem dX6_notes_76 : decode cX6_notes 76 = .ok (.iaload, 1) := by decide +kernel
theorem dX6_notes_77 : decode cX6_notes 77 = .ok (.iastore, 1) := by decide +kernel
theorem dX6_notes_78 : decode cX6_notes 78 = .ok (.aload_n 0, 1) := by decide +kernel
theorem dX6_notes_79 : decode cX6_notes 79 = .ok (.getfield 7, 3) := by decide +kernel
theorem dX6_notes_82 : decode cX6_notes 82 = .ok (.iload_n 3, 1) := by decide +kernel
theorem dX6_notes_83 : decode cX6_notes 83 = .ok (.iconst 1, 1) := by decide +kernel
theorem dX6_notes_84 : decode cX6_notes 84 = .ok (.iadd, 1) := by decide +kernel
theorem dX6_notes_85 : decode cX6_notes 85 = .ok (.aload_n 0, 1) := by decide +kernel
theorem dX6_notes_86 : decode cX6_notes 86 = .ok (.getfield 7, 3) := by decide +kernel
theorem dX6_notes_89 : decode cX6_notes 89 = .ok (.iconst 3, 1) := by decide +kernel
theorem dX6_notes_90 : decode cX6_notes 90 = .ok (.iaload, 1) := by decide +kernel
theorem dX6_notes_91 : decode cX6_notes 91 = .ok (.iastore, 1) := by decide +kernel
theorem dX6_notes_92 : decode cX6_notes 92 = .ok (.aload_n 0, 1) := by decide +kernel
theorem dX6_notes_93 : decode cX6_notes 93 = .ok (.getfield 7, 3) := by decide +kernel
theorem dX6_notes_96 : decode cX6_notes 96 = .ok (.iload_n 3, 1) := by decide +kernel
theorem dX6_notes_97 : decode cX6_notes 97 = .ok (.iconst 2, 1) := by decide +kernel
theorem dX6_notes_98 : decode cX6_notes 98 = .ok (.iadd, 1) := by decide +kernel
theorem dX6_notes_99 : decode cX6_notes 99 = .ok (.iload_n 1, 1) := by decide +kernel
theorem dX6_notes_100 : decode cX6_notes 100 = .ok (.iastore, 1) := by decide +kernel
theorem dX6_notes_101 : decode cX6_notes 101 = .ok (.aload_n 0, 1) := by decide +kernel
theorem dX6_notes_102 : decode cX6_notes 102 = .ok (.getfield 7, 3) := by decide +kernel
theorem dX6_notes_105 : decode cX6_notes 105 = .ok (.iload_n 3, 1) := by decide +kernel
theorem dX6_notes_106 : decode cX6_notes 106 = .ok (.iconst 3, 1) := by decide +kernel
theorem dX6_notes_107 : decode cX6_notes 107 = .ok (.iadd, 1) := by decide +kernel
theorem dX6_notes_108 : decode cX6_notes 108 = .ok (.iload_n 2, 1) := by decide +kernel
theorem dX6_notes_109 : decode cX6_notes 109 = .ok (.iastore, 1) := by decide +kernel
theorem dX6_notes_110 : decode cX6_notes 110 = .ok (.aload_n 0, 1) := by decide +kernel
theorem dX6_notes_111 : decode cX6_notes 111 = .ok (.getfield 7, 3) := by decide +kernel
theorem dX6_notes_114 : decode cX6_notes 114 = .ok (.bipush 85, 2) := by decide +kernel
theorem dX6_notes_116 : decode cX6_notes 116 = .ok (.dup2, 1) := by decide +kernel
theorem dX6_notes_117 : decode cX6_notes 117 = .ok (.iaload, 1) := by decide +kernel
theorem dX6_notes_118 : decode cX6_notes 118 = .ok (.iconst 1, 1) := by decide +kernel
theorem dX6_notes_119 : decode cX6_notes 119 = .ok (.iadd, 1) := by decide +kernel
theorem dX6_notes_120 : decode cX6_notes 120 = .ok (.iastore, 1) := by decide +kernel
theorem dX6_notes_121 : decode cX6_notes 121 = .ok (.return_, 1) := by decide +kernel
theorem dX6_goesOn_0 : decode cX6_goesOn 0 = .ok (.iconst 1, 1) := by decide +kernel
theorem dX6_goesOn_1 : decode cX6_goesOn 1 = .ok (.istore_n 1, 1) := by decide +kernel
theorem dX6_goesOn_2 : decode cX6_goesOn 2 = .ok (.iload_n 1, 1) := by decide +kernel
theorem dX6_goesOn_3 : decode cX6_goesOn 3 = .ok (.aload_n 0, 1) := by decide +kernel
theorem dX6_goesOn_4 : decode cX6_goesOn 4 = .ok (.getfield 7, 3) := by decide +kernel
theorem dX6_goesOn_7 : decode cX6_goesOn 7 = .ok (.iconst 0, 1) := by decide +kernel
theorem dX6_goesOn_8 : decode cX6_goesOn 8 = .ok (.iaload, 1) := by decide +kernel
theorem dX6_goesOn_9 : decode cX6_goesOn 9 = .ok (.if_icmp .gt 43, 3) := by decide +kernel
theorem dX6_goesOn_12 : decode cX6_goesOn 12 = .ok (.aload_n 0, 1) := by decide +kernel
theorem dX6_goesOn_13 : decode cX6_goesOn 13 = .ok (.getfield 7, 3) := by decide +kernel
theorem dX6_goesOn_16 : decode cX6_goesOn 16 = .ok (.iconst 3, 1) := by decide +kernel
theorem dX6_goesOn_17 : decode cX6_goesOn 17 = .ok (.iaload, 1) := by decide +kernel
theorem dX6_goesOn_18 : decode cX6_goesOn 18 = .ok (.iload_n 1, 1) := by decide +kernel
theorem dX6_goesOn_19 : decode cX6_goesOn 19 = .ok (.iadd, 1) := by decide +kernel
theorem dX6_goesOn_20 : decode cX6_goesOn 20 = .ok (.aload_n 0, 1) := by decide +kernel
theorem dX6_goesOn_21 : decode cX6_goesOn 21 = .ok (.getfield 7, 3) := by decide +kernel
theorem dX6_goesOn_24 : decode cX6_goesOn 24 = .ok (.iconst 0, 1) := by decide +kernel
theorem dX6_goesOn_25 : decode cX6_goesOn 25 = .ok (.iaload, 1) := by decide +kernel
theorem dX6_goesOn_26 : decode cX6_goesOn 26 = .ok (.irem, 1) := by decide +kernel
theorem dX6_goesOn_27 : decode cX6_goesOn 27 = .ok (.istore_n 2, 1) := by decide +kernel
theorem dX6_goesOn_28 : decode cX6_goesOn 28 = .ok (.aload_n 0, 1) := by decide +kernel
theorem dX6_goesOn_29 : decode cX6_goesOn 29 = .ok (.iload_n 2, 1) := by decide +kernel
theorem dX6_goesOn_30 : decode cX6_goesOn 30 = .ok (.bipush 7, 2) := by decide +kernel
theorem dX6_goesOn_32 : decode cX6_goesOn 32 = .ok (.invokevirtual 44, 3) := by decide +kernel
theorem dX6_goesOn_35 : decode cX6_goesOn 35 = .ok (.ifCond .le 11, 3) := by decide +kernel
theorem dX6_goesOn_38 : decode cX6_goesOn 38 = .ok (.aload_n 0, 1) := by decide +kernel
theorem dX6_goesOn_39 : decode cX6_goesOn 39 = .ok (.getfield 7, 3) := by decide +kernel
theorem dX6_goesOn_42 : decode cX6_goesOn 42 = .ok (.iconst 3, 1) := by decide +kernel
theorem dX6_goesOn_43 : decode cX6_goesOn 43 = .ok (.iload_n 2, 1) := by decide +kernel
theorem dX6_goesOn_44 : decode cX6_goesOn 44 = .ok (.iastore, 1) := by decide +kernel
theorem dX6_goesOn_45 : decode cX6_goesOn 45 = .ok (.return_, 1) := by decide +kernel
theorem dX6_goesOn_46 : decode cX6_goesOn 46 = .ok (.iinc 1 1, 3) := by decide +kernel
theorem dX6_goesOn_49 : decode cX6_goesOn 49 = .ok (.goto (-47), 3) := by decide +kernel
theorem dX6_goesOn_52 : decode cX6_goesOn 52 = .ok (.iconst 0, 1) := by decide +kernel
theorem dX6_goesOn_53 : decode cX6_goesOn 53 = .ok (.istore_n 1, 1) := by decide +kernel
theorem dX6_goesOn_54 : decode cX6_goesOn 54 = .ok (.iload_n 1, 1) := by decide +kernel
theorem dX6_goesOn_55 : decode cX6_goesOn 55 = .ok (.aload_n 0, 1) := by decide +kernel
theorem dX6_goesOn_56 : decode cX6_goesOn 56 = .ok (.getfield 7, 3) := by decide +kernel
theorem dX6_goesOn_59 : decode cX6_goesOn 59 = .ok (.iconst 0, 1) := by decide +kernel
theorem dX6_goesOn_60 : decode cX6_goesOn 60 = .ok (.iaload, 1) := by decide +kernel
theorem dX6_goesOn_61 : decode cX6_goesOn 61 = .ok (.if_icmp .ge 14, 3) := by decide +kernel
theorem dX6_goesOn_64 : decode cX6_goesOn 64 = .ok (.aload_n 0, 1) := by decide +kernel
theorem dX6_goesOn_65 : decode cX6_goesOn 65 = .ok (.iload_n 1, 1) := by decide +kernel
theorem dX6_goesOn_66 : decode cX6_goesOn 66 = .ok (.invokevirtual 125, 3) := by decide +kernel
theorem dX6_goesOn_69 : decode cX6_goesOn 69 = .ok (.iinc 1 1, 3) := by decide +kernel
theorem dX6_goesOn_72 : decode cX6_goesOn 72 = .ok (.goto (-18), 3) := by decide +kernel
theorem dX6_goesOn_75 : decode cX6_goesOn 75 = .ok (.aload_n 0, 1) := by decide +kernel
theorem dX6_goesOn_76 : decode cX6_goesOn 76 = .ok (.getfield 7, 3) := by decide +kernel
theorem dX6_goesOn_79 : decode cX6_goesOn 79 = .ok (.iconst 2, 1) := by decide +kernel
theorem dX6_goesOn_80 : decode cX6_goesOn 80 = .ok (.iaload, 1) := by decide +kernel
theorem dX6_goesOn_81 : decode cX6_goesOn 81 = .ok (.aload_n 0, 1) := by decide +kernel
theorem dX6_goesOn_82 : decode cX6_goesOn 82 = .ok (.getfield 7, 3) := by decide +kernel
theorem dX6_goesOn_85 : decode cX6_goesOn 85 = .ok (.iconst 1, 1) := by decide +kernel
theorem dX6_goesOn_86 : decode cX6_goesOn 86 = .ok (.iaload, 1) := by decide +kernel
theorem dX6_goesOn_87 : decode cX6_goesOn 87 = .ok (.if_icmp .ne 23, 3) := by decide +kernel
theorem dX6_goesOn_90 : decode cX6_goesOn 90 = .ok (.aload_n 0, 1) := by decide +kernel
theorem dX6_goesOn_91 : decode cX6_goesOn 91 = .ok (.getfield 7, 3) := by decide +kernel
theorem dX6_goesOn_94 : decode cX6_goesOn 94 = .ok (.iconst 2, 1) := by decide +kernel
theorem dX6_goesOn_95 : decode cX6_goesOn 95 = .ok (.dup2, 1) := by decide +kernel
theorem dX6_goesOn_96 : decode cX6_goesOn 96 = .ok (.iaload, 1) := by decide +kernel
theorem dX6_goesOn_97 : decode cX6_goesOn 97 = .ok (.iconst 1, 1) := by decide +kernel
theorem dX6_goesOn_98 : decode cX6_goesOn 98 = .ok (.iadd, 1) := by decide +kernel
theorem dX6_goesOn_99 : decode cX6_goesOn 99 = .ok (.iastore, 1) := by decide +kernel
theorem dX6_goesOn_100 : decode cX6_goesOn 100 = .ok (.aload_n 0, 1) := by decide +kernel
theorem dX6_goesOn_101 : decode cX6_goesOn 101 = .ok (.getfield 7, 3) := by decide +kernel
theorem dX6_goesOn_104 : decode cX6_goesOn 104 = .ok (.iconst 3, 1) := by decide +kernel
theorem dX6_goesOn_105 : decode cX6_goesOn 105 = .ok (.iconst (-1), 1) := by decide +kernel
theorem dX6_goesOn_106 : decode cX6_goesOn 106 = .ok (.iastore, 1) := by decide +kernel
theorem dX6_goesOn_107 : decode cX6_goesOn 107 = .ok (.goto 7, 3) := by decide +kernel
theorem dX6_goesOn_110 : decode cX6_goesOn 110 = .ok (.aload_n 0, 1) := by decide +kernel
theorem dX6_goesOn_111 : decode cX6_goesOn 111 = .ok (.invokevirtual 62, 3) := by decide +kernel
theorem dX6_goesOn_114 : decode cX6_goesOn 114 = .ok (.return_, 1) := by decide +kernel
theorem dX6_places_0 : decode cX6_places 0 = .ok (.aload_n 0, 1) := by decide +kernel
theorem dX6_places_1 : decode cX6_places 1 = .ok (.iload_n 1, 1) := by decide +kernel
theorem dX6_places_2 : decode cX6_places 2 = .ok (.iload_n 2, 1) := by decide +kernel
theorem dX6_places_3 : decode cX6_places 3 = .ok (.invokevirtual 129, 3) := by decide +kernel
theorem dX6_places_6 : decode cX6_places 6 = .ok (.aload_n 0, 1) := by decide +kernel
theorem dX6_places_7 : decode cX6_places 7 = .ok (.iload_n 1, 1) := by decide +kernel
theorem dX6_places_8 : decode cX6_places 8 = .ok (.iload_n 2, 1) := by decide +kernel
theorem dX6_places_9 : decode cX6_places 9 = .ok (.invokevirtual 132, 3) := by decide +kernel
theorem dX6_places_12 : decode cX6_places 12 = .ok (.aload_n 0, 1) := by decide +kernel
theorem dX6_places_13 : decode cX6_places 13 = .ok (.invokevirtual 135, 3) := by decide +kernel
theorem dX6_places_16 : decode cX6_places 16 = .ok (.return_, 1) := by decide +kernel
theorem dX6_skips_0 : decode cX6_skips 0 = .ok (.aload_n 0, 1) := by decide +kernel
theorem dX6_skips_1 : decode cX6_skips 1 = .ok (.iconst (-1), 1) := by decide +kernel
theorem dX6_skips_2 : decode cX6_skips 2 = .ok (.iconst 0, 1) := by decide +kernel
theorem dX6_skips_3 : decode cX6_skips 3 = .ok (.invokevirtual 129, 3) := by decide +kernel
theorem dX6_skips_6 : decode cX6_skips 6 = .ok (.aload_n 0, 1) := by decide +kernel
theorem dX6_skips_7 : decode cX6_skips 7 = .ok (.getfield 7, 3) := by decide +kernel
theorem dX6_skips_10 : decode cX6_skips 10 = .ok (.aload_n 0, 1) := by decide +kernel
theorem dX6_skips_11 : decode cX6_skips 11 = .ok (.getfield 7, 3) := by decide +kernel
theorem dX6_skips_14 : decode cX6_skips 14 = .ok (.iconst 3, 1) := by decide +kernel
theorem dX6_skips_15 : decode cX6_skips 15 = .ok (.iaload, 1) := by decide +kernel
theorem dX6_skips_16 : decode cX6_skips 16 = .ok (.bipush 7, 2) := by decide +kernel
theorem dX6_skips_18 : decode cX6_skips 18 = .ok (.invokestatic 40, 3) := by decide +kernel
theorem dX6_skips_21 : decode cX6_skips 21 = .ok (.iconst 0, 1) := by decide +kernel
theorem dX6_skips_22 : decode cX6_skips 22 = .ok (.iastore, 1) := by decide +kernel
theorem dX6_skips_23 : decode cX6_skips 23 = .ok (.aload_n 0, 1) := by decide +kernel
theorem dX6_skips_24 : decode cX6_skips 24 = .ok (.invokevirtual 135, 3) := by decide +kernel
theorem dX6_skips_27 : decode cX6_skips 27 = .ok (.return_, 1) := by decide +kernel
theorem dX6_newGame_0 : decode cX6_newGame 0 = .ok (.aload_n 0, 1) := by decide +kernel
theorem dX6_newGame_1 : decode cX6_newGame 1 = .ok (.iload_n 1, 1) := by decide +kernel
theorem dX6_newGame_2 : decode cX6_newGame 2 = .ok (.iconst 2, 1) := by decide +kernel
theorem dX6_newGame_3 : decode cX6_newGame 3 = .ok (.iconst 4, 1) := by decide +kernel
theorem dX6_newGame_4 : decode cX6_newGame 4 = .ok (.invokestatic 47, 3) := by decide +kernel
theorem dX6_newGame_7 : decode cX6_newGame 7 = .ok (.ifCond .eq 17, 3) := by decide +kernel
theorem dX6_newGame_10 : decode cX6_newGame 10 = .ok (.iload_n 2, 1) := by decide +kernel
theorem dX6_newGame_11 : decode cX6_newGame 11 = .ok (.iconst 1, 1) := by decide +kernel
theorem dX6_newGame_12 : decode cX6_newGame 12 = .ok (.bipush 12, 2) := by decide +kernel
theorem dX6_newGame_14 : decode cX6_newGame 14 = .ok (.invokestatic 47, 3) := by decide +kernel
theorem dX6_newGame_17 : decode cX6_newGame 17 = .ok (.ifCond .eq 7, 3) := by decide +kernel
theorem dX6_newGame_20 : decode cX6_newGame 20 = .ok (.iconst 0, 1) := by decide +kernel
theorem dX6_newGame_21 : decode cX6_newGame 21 = .ok (.goto 4, 3) := by decide +kernel
theorem dX6_newGame_24 : decode cX6_newGame 24 = .ok (.iconst 1, 1) := by decide +kernel
theorem dX6_newGame_25 : decode cX6_newGame 25 = .ok (.invokevirtual 36, 3) := by decide +kernel
theorem dX6_newGame_28 : decode cX6_newGame 28 = .ok (.ifCond .eq 5, 3) := by decide +kernel
theorem dX6_newGame_31 : decode cX6_newGame 31 = .ok (.iconst 0, 1) := by decide +kernel
theorem dX6_newGame_32 : decode cX6_newGame 32 = .ok (.ireturn, 1) := by decide +kernel
theorem dX6_newGame_33 : decode cX6_newGame 33 = .ok (.aload_n 0, 1) := by decide +kernel
theorem dX6_newGame_34 : decode cX6_newGame 34 = .ok (.invokevirtual 138, 3) := by decide +kernel
theorem dX6_newGame_37 : decode cX6_newGame 37 = .ok (.aload_n 0, 1) := by decide +kernel
theorem dX6_newGame_38 : decode cX6_newGame 38 = .ok (.getfield 7, 3) := by decide +kernel
theorem dX6_newGame_41 : decode cX6_newGame 41 = .ok (.iconst 2, 1) := by decide +kernel
theorem dX6_newGame_42 : decode cX6_newGame 42 = .ok (.iaload, 1) := by decide +kernel
theorem dX6_newGame_43 : decode cX6_newGame 43 = .ok (.iconst 1, 1) := by decide +kernel
theorem dX6_newGame_44 : decode cX6_newGame 44 = .ok (.isub, 1) := by decide +kernel
theorem dX6_newGame_45 : decode cX6_newGame 45 = .ok (.istore_n 3, 1) := by decide +kernel
theorem dX6_newGame_46 : decode cX6_newGame 46 = .ok (.aload_n 0, 1) := by decide +kernel
theorem dX6_newGame_47 : decode cX6_newGame 47 = .ok (.iload_n 1, 1) := by decide +kernel
theorem dX6_newGame_48 : decode cX6_newGame 48 = .ok (.iload_n 2, 1) := by decide +kernel
theorem dX6_newGame_49 : decode cX6_newGame 49 = .ok (.invokevirtual 25, 3) := by decide +kernel
theorem dX6_newGame_52 : decode cX6_newGame 52 = .ok (.iload_n 3, 1) := by decide +kernel
theorem dX6_newGame_53 : decode cX6_newGame 53 = .ok (.ireturn, 1) := by decide +kernel
theorem dX6_isSpace_0 : decode cX6_isSpace 0 = .ok (.iload_n 0, 1) := by decide +kernel
theorem dX6_isSpace_1 : decode cX6_isSpace 1 = .ok (.iconst 0, 1) := by decide +kernel
theorem dX6_isSpace_2 : decode cX6_isSpace 2 = .ok (.bipush 11, 2) := by decide +kernel
theorem dX6_isSpace_4 : decode cX6_isSpace 4 = .ok (.invokestatic 47, 3) := by decide +kernel
theorem dX6_isSpace_7 : decode cX6_isSpace 7 = .ok (.ireturn, 1) := by decide +kernel
theorem dX6_reason_0 : decode cX6_reason 0 = .ok (.aload_n 0, 1) := by decide +kernel
theorem dX6_reason_1 : decode cX6_reason 1 = .ok (.iload_n 1, 1) := by decide +kernel
theorem dX6_reason_2 : decode cX6_reason 2 = .ok (.invokestatic 141, 3) := by decide +kernel
theorem dX6_reason_5 : decode cX6_reason 5 = .ok (.ifCond .eq 7, 3) := by decide +kernel
theorem dX6_reason_8 : decode cX6_reason 8 = .ok (.iconst 0, 1) := by decide +kernel
theorem dX6_reason_9 : decode cX6_reason 9 = .ok (.goto 4, 3) := by decide +kernel
theorem dX6_reason_12 : decode cX6_reason 12 = .ok (.iconst 1, 1) := by decide +kernel
theorem dX6_reason_13 : decode cX6_reason 13 = .ok (.invokevirtual 36, 3) := by decide +kernel
theorem dX6_reason_16 : decode cX6_reason 16 = .ok (.ifCond .eq 7, 3) := by decide +kernel
theorem dX6_reason_19 : decode cX6_reason 19 = .ok (.iconst 0, 1) := by decide +kernel
theorem dX6_reason_20 : decode cX6_reason 20 = .ok (.goto 9, 3) := by decide +kernel
theorem dX6_reason_23 : decode cX6_reason 23 = .ok (.aload_n 0, 1) := by decide +kernel
theorem dX6_reason_24 : decode cX6_reason 24 = .ok (.iload_n 1, 1) := by decide +kernel
theorem dX6_reason_25 : decode cX6_reason 25 = .ok (.iload_n 2, 1) := by decide +kernel
theorem dX6_reason_26 : decode cX6_reason 26 = .ok (.invokevirtual 144, 3) := by decide +kernel
theorem dX6_reason_29 : decode cX6_reason 29 = .ok (.ireturn, 1) := by decide +kernel
theorem dX6_place_0 : decode cX6_place 0 = .ok (.aload_n 0, 1) := by decide +kernel
theorem dX6_place_1 : decode cX6_place 1 = .ok (.iload_n 1, 1) := by decide +kernel
theorem dX6_place_2 : decode cX6_place 2 = .ok (.invokestatic 141, 3) := by decide +kernel
theorem dX6_place_5 : decode cX6_place 5 = .ok (.ifCond .ne 7, 3) := by decide +kernel
theorem dX6_place_8 : decode cX6_place 8 = .ok (.iconst 1, 1) := by decide +kernel
theorem dX6_place_9 : decode cX6_place 9 = .ok (.goto 17, 3) := by decide +kernel
theorem dX6_place_12 : decode cX6_place 12 = .ok (.aload_n 0, 1) := by decide +kernel
theorem dX6_place_13 : decode cX6_place 13 = .ok (.iload_n 1, 1) := by decide +kernel
theorem dX6_place_14 : decode cX6_place 14 = .ok (.iload_n 2, 1) := by decide +kernel
theorem dX6_place_15 : decode cX6_place 15 = .ok (.invokevirtual 144, 3) := by decide +kernel
theorem dX6_place_18 : decode cX6_place 18 = .ok (.ifCond .ne 7, 3) := by decide +kernel
theorem dX6_place_21 : decode cX6_place 21 = .ok (.iconst 0, 1) := by decide +kernel
theorem dX6_place_22 : decode cX6_place 22 = .ok (.goto 4, 3) := by decide +kernel
theorem dX6_place_25 : decode cX6_place 25 = .ok (.iconst 2, 1) := by decide +kernel
theorem dX6_place_26 : decode cX6_place 26 = .ok (.invokevirtual 36, 3) := by decide +kernel
theorem dX6_place_29 : decode cX6_place 29 = .ok (.ifCond .eq 5, 3) := by decide +kernel
theorem dX6_place_32 : decode cX6_place 32 = .ok (.iconst 0, 1) := by decide +kernel
theorem dX6_place_33 : decode cX6_place 33 = .ok (.ireturn, 1) := by decide +kernel
theorem dX6_place_34 : decode cX6_place 34 = .ok (.aload_n 0, 1) := by decide +kernel
theorem dX6_place_35 : decode cX6_place 35 = .ok (.invokevirtual 138, 3) := by decide +kernel
theorem dX6_place_38 : decode cX6_place 38 = .ok (.aload_n 0, 1) := by decide +kernel
theorem dX6_place_39 : decode cX6_place 39 = .ok (.iload_n 1, 1) := by decide +kernel
theorem dX6_place_40 : decode cX6_place 40 = .ok (.iload_n 2, 1) := by decide +kernel
theorem dX6_place_41 : decode cX6_place 41 = .ok (.invokevirtual 147, 3) := by decide +kernel
theorem dX6_place_44 : decode cX6_place 44 = .ok (.aload_n 0, 1) := by decide +kernel
theorem dX6_place_45 : decode cX6_place 45 = .ok (.getfield 7, 3) := by decide +kernel
theorem dX6_place_48 : decode cX6_place 48 = .ok (.iconst 3, 1) := by decide +kernel
theorem dX6_place_49 : decode cX6_place 49 = .ok (.iaload, 1) := by decide +kernel
theorem dX6_place_50 : decode cX6_place 50 = .ok (.ireturn, 1) := by decide +kernel
theorem dX6_nextCode_0 : decode cX6_nextCode 0 = .ok (.iload_n 1, 1) := by decide +kernel
theorem dX6_nextCode_1 : decode cX6_nextCode 1 = .ok (.iconst 1, 1) := by decide +kernel
theorem dX6_nextCode_2 : decode cX6_nextCode 2 = .ok (.iadd, 1) := by decide +kernel
theorem dX6_nextCode_3 : decode cX6_nextCode 3 = .ok (.istore_n 2, 1) := by decide +kernel
theorem dX6_nextCode_4 : decode cX6_nextCode 4 = .ok (.iload_n 2, 1) := by decide +kernel
theorem dX6_nextCode_5 : decode cX6_nextCode 5 = .ok (.sipush 300, 3) := by decide +kernel
theorem dX6_nextCode_8 : decode cX6_nextCode 8 = .ok (.if_icmp .ge 26, 3) := by decide +kernel
theorem dX6_nextCode_11 : decode cX6_nextCode 11 = .ok (.aload_n 0, 1) := by decide +kernel
theorem dX6_nextCode_12 : decode cX6_nextCode 12 = .ok (.iload_n 2, 1) := by decide +kernel
theorem dX6_nextCode_13 : decode cX6_nextCode 13 = .ok (.bipush 25, 2) := by decide +kernel
theorem dX6_nextCode_15 : decode cX6_nextCode 15 = .ok (.idiv, 1) := by decide +kernel
theorem dX6_nextCode_16 : decode cX6_nextCode 16 = .ok (.iload_n 2, 1) := by decide +kernel
theorem dX6_nextCode_17 : decode cX6_nextCode 17 = .ok (.bipush 25, 2) := by decide +kernel
theorem dX6_nextCode_19 : decode cX6_nextCode 19 = .ok (.irem, 1) := by decide +kernel
theorem dX6_nextCode_20 : decode cX6_nextCode 20 = .ok (.invokevirtual 144, 3) := by decide +kernel
theorem dX6_nextCode_23 : decode cX6_nextCode 23 = .ok (.ifCond .ne 5, 3) := by decide +kernel
theorem dX6_nextCode_26 : decode cX6_nextCode 26 = .ok (.iload_n 2, 1) := by decide +kernel
theorem dX6_nextCode_27 : decode cX6_nextCode 27 = .ok (.ireturn, 1) := by decide +kernel
theorem dX6_nextCode_28 : decode cX6_nextCode 28 = .ok (.iinc 2 1, 3) := by decide +kernel
theorem dX6_nextCode_31 : decode cX6_nextCode 31 = .ok (.goto (-27), 3) := by decide +kernel
theorem dX6_nextCode_34 : decode cX6_nextCode 34 = .ok (.iconst (-1), 1) := by decide +kernel
theorem dX6_nextCode_35 : decode cX6_nextCode 35 = .ok (.ireturn, 1) := by decide +kernel
theorem dX6_skip_0 : decode cX6_skip 0 = .ok (.aload_n 0, 1) := by decide +kernel
theorem dX6_skip_1 : decode cX6_skip 1 = .ok (.aload_n 0, 1) := by decide +kernel
theorem dX6_skip_2 : decode cX6_skip 2 = .ok (.invokevirtual 100, 3) := by decide +kernel
theorem dX6_skip_5 : decode cX6_skip 5 = .ok (.ifCond .ne 12, 3) := by decide +kernel
theorem dX6_skip_8 : decode cX6_skip 8 = .ok (.aload_n 0, 1) := by decide +kernel
theorem dX6_skip_9 : decode cX6_skip 9 = .ok (.iconst (-1), 1) := by decide +kernel
theorem dX6_skip_10 : decode cX6_skip 10 = .ok (.invokevirtual 150, 3) := by decide +kernel
theorem dX6_skip_13 : decode cX6_skip 13 = .ok (.iconst (-1), 1) := by decide +kernel
theorem dX6_skip_14 : decode cX6_skip 14 = .ok (.if_icmp .eq 7, 3) := by decide +kernel
theorem dX6_skip_17 : decode cX6_skip 17 = .ok (.iconst 1, 1) := by decide +kernel
theorem dX6_skip_18 : decode cX6_skip 18 = .ok (.goto 4, 3) := by decide +kernel
theorem dX6_skip_21 : decode cX6_skip 21 = .ok (.iconst 0, 1) := by decide +kernel
theorem dX6_skip_22 : decode cX6_skip 22 = .ok (.invokevirtual 36, 3) := by decide +kernel
theorem dX6_skip_25 : decode cX6_skip 25 = .ok (.ifCond .eq 5, 3) := by decide +kernel
theorem dX6_skip_28 : decode cX6_skip 28 = .ok (.iconst 0, 1) := by decide +kernel
theorem dX6_skip_29 : decode cX6_skip 29 = .ok (.ireturn, 1) := by decide +kernel
theorem dX6_skip_30 : decode cX6_skip 30 = .ok (.aload_n 0, 1) := by decide +kernel
theorem dX6_skip_31 : decode cX6_skip 31 = .ok (.invokevirtual 138, 3) := by decide +kernel
theorem dX6_skip_34 : decode cX6_skip 34 = .ok (.aload_n 0, 1) := by decide +kernel
theorem dX6_skip_35 : decode cX6_skip 35 = .ok (.invokevirtual 153, 3) := by decide +kernel
theorem dX6_skip_38 : decode cX6_skip 38 = .ok (.aload_n 0, 1) := by decide +kernel
theorem dX6_skip_39 : decode cX6_skip 39 = .ok (.getfield 7, 3) := by decide +kernel
theorem dX6_skip_42 : decode cX6_skip 42 = .ok (.iconst 3, 1) := by decide +kernel
theorem dX6_skip_43 : decode cX6_skip 43 = .ok (.iaload, 1) := by decide +kernel
theorem dX6_skip_44 : decode cX6_skip 44 = .ok (.ireturn, 1) := by decide +kernel
theorem dX6_laysLevel_0 : decode cX6_laysLevel 0 = .ok (.iconst 0, 1) := by decide +kernel
theorem dX6_laysLevel_1 : decode cX6_laysLevel 1 = .ok (.istore_n 2, 1) := by decide +kernel
theorem dX6_laysLevel_2 : decode cX6_laysLevel 2 = .ok (.iload_n 2, 1) := by decide +kernel
theorem dX6_laysLevel_3 : decode cX6_laysLevel 3 = .ok (.bipush 85, 2) := by decide +kernel
theorem dX6_laysLevel_5 : decode cX6_laysLevel 5 = .ok (.if_icmp .ge 27, 3) := by decide +kernel
theorem dX6_laysLevel_8 : decode cX6_laysLevel 8 = .ok (.aload_n 0, 1) := by decide +kernel
theorem dX6_laysLevel_9 : decode cX6_laysLevel 9 = .ok (.getfield 16, 3) := by decide +kernel
theorem dX6_laysLevel_12 : decode cX6_laysLevel 12 = .ok (.sipush 206, 3) := by decide +kernel
theorem dX6_laysLevel_15 : decode cX6_laysLevel 15 = .ok (.iload_n 1, 1) := by decide +kernel
theorem dX6_laysLevel_16 : decode cX6_laysLevel 16 = .ok (.imul, 1) := by decide +kernel
theorem dX6_laysLevel_17 : decode cX6_laysLevel 17 = .ok (.iload_n 2, 1) := by decide +kernel
theorem dX6_laysLevel_18 : decode cX6_laysLevel 18 = .ok (.iadd, 1) := by decide +kernel
theorem dX6_laysLevel_19 : decode cX6_laysLevel 19 = .ok (.aload_n 0, 1) := by decide +kernel
theorem dX6_laysLevel_20 : decode cX6_laysLevel 20 = .ok (.getfield 7, 3) := by decide +kernel
theorem dX6_laysLevel_23 : decode cX6_laysLevel 23 = .ok (.iload_n 2, 1) := by decide +kernel
theorem dX6_laysLevel_24 : decode cX6_laysLevel 24 = .ok (.iaload, 1) := by decide +kernel
theorem dX6_laysLevel_25 : decode cX6_laysLevel 25 = .ok (.iastore, 1) := by decide +kernel
theorem dX6_laysLevel_26 : decode cX6_laysLevel 26 = .ok (.iinc 2 1, 3) := by decide +kernel
theorem dX6_laysLevel_29 : decode cX6_laysLevel 29 = .ok (.goto (-27), 3) := by decide +kernel
theorem dX6_laysLevel_32 : decode cX6_laysLevel 32 = .ok (.return_, 1) := by decide +kernel
theorem dX6_takesLevel_0 : decode cX6_takesLevel 0 = .ok (.iconst 0, 1) := by decide +kernel
theorem dX6_takesLevel_1 : decode cX6_takesLevel 1 = .ok (.istore_n 2, 1) := by decide +kernel
theorem dX6_takesLevel_2 : decode cX6_takesLevel 2 = .ok (.iload_n 2, 1) := by decide +kernel
theorem dX6_takesLevel_3 : decode cX6_takesLevel 3 = .ok (.bipush 85, 2) := by decide +kernel
theorem dX6_takesLevel_5 : decode cX6_takesLevel 5 = .ok (.if_icmp .ge 27, 3) := by decide +kernel
theorem dX6_takesLevel_8 : decode cX6_takesLevel 8 = .ok (.aload_n 0, 1) := by decide +kernel
theorem dX6_takesLevel_9 : decode cX6_takesLevel 9 = .ok (.getfield 7, 3) := by decide +kernel
theorem dX6_takesLevel_12 : decode cX6_takesLevel 12 = .ok (.iload_n 2, 1) := by decide +kernel
theorem dX6_takesLevel_13 : decode cX6_takesLevel 13 = .ok (.aload_n 0, 1) := by decide +kernel
theorem dX6_takesLevel_14 : decode cX6_takesLevel 14 = .ok (.getfield 16, 3) := by decide +kernel
theorem dX6_takesLevel_17 : decode cX6_takesLevel 17 = .ok (.sipush 206, 3) := by decide +kernel
theorem dX6_takesLevel_20 : decode cX6_takesLevel 20 = .ok (.iload_n 1, 1) := by decide +kernel
theorem dX6_takesLevel_21 : decode cX6_takesLevel 21 = .ok (.imul, 1) := by decide +kernel
theorem dX6_takesLevel_22 : decode cX6_takesLevel 22 = .ok (.iload_n 2, 1) := by decide +kernel
theorem dX6_takesLevel_23 : decode cX6_takesLevel 23 = .ok (.iadd, 1) := by decide +kernel
theorem dX6_takesLevel_24 : decode cX6_takesLevel 24 = .ok (.iaload, 1) := by decide +kernel
theorem dX6_takesLevel_25 : decode cX6_takesLevel 25 = .ok (.iastore, 1) := by decide +kernel
theorem dX6_takesLevel_26 : decode cX6_takesLevel 26 = .ok (.iinc 2 1, 3) := by decide +kernel
theorem dX6_takesLevel_29 : decode cX6_takesLevel 29 = .ok (.goto (-27), 3) := by decide +kernel
theorem dX6_takesLevel_32 : decode cX6_takesLevel 32 = .ok (.return_, 1) := by decide +kernel
theorem dX6_weighs_0 : decode cX6_weighs 0 = .ok (.aload_n 0, 1) := by decide +kernel
theorem dX6_weighs_1 : decode cX6_weighs 1 = .ok (.aload_n 0, 1) := by decide +kernel
theorem dX6_weighs_2 : decode cX6_weighs 2 = .ok (.getfield 7, 3) := by decide +kernel
theorem dX6_weighs_5 : decode cX6_weighs 5 = .ok (.iconst 3, 1) := by decide +kernel
theorem dX6_weighs_6 : decode cX6_weighs 6 = .ok (.iaload, 1) := by decide +kernel
theorem dX6_weighs_7 : decode cX6_weighs 7 = .ok (.invokevirtual 125, 3) := by decide +kernel
theorem dX6_weighs_10 : decode cX6_weighs 10 = .ok (.aload_n 0, 1) := by decide +kernel
theorem dX6_weighs_11 : decode cX6_weighs 11 = .ok (.aload_n 0, 1) := by decide +kernel
theorem dX6_weighs_12 : decode cX6_weighs 12 = .ok (.getfield 7, 3) := by decide +kernel
theorem dX6_weighs_15 : decode cX6_weighs 15 = .ok (.iconst 3, 1) := by decide +kernel
theorem dX6_weighs_16 : decode cX6_weighs 16 = .ok (.iaload, 1) := by decide +kernel
theorem dX6_weighs_17 : decode cX6_weighs 17 = .ok (.invokevirtual 156, 3) := by decide +kernel
theorem dX6_weighs_20 : decode cX6_weighs 20 = .ok (.istore_n 2, 1) := by decide +kernel
theorem dX6_weighs_21 : decode cX6_weighs 21 = .ok (.aload_n 0, 1) := by decide +kernel
theorem dX6_weighs_22 : decode cX6_weighs 22 = .ok (.getfield 159, 3) := by decide +kernel
theorem dX6_weighs_25 : decode cX6_weighs 25 = .ok (.ifCond .eq 11, 3) := by decide +kernel
theorem dX6_weighs_28 : decode cX6_weighs 28 = .ok (.iload_n 2, 1) := by decide +kernel
theorem dX6_weighs_29 : decode cX6_weighs 29 = .ok (.aload_n 0, 1) := by decide +kernel
theorem dX6_weighs_30 : decode cX6_weighs 30 = .ok (.getfield 162, 3) := by decide +kernel
theorem dX6_weighs_33 : decode cX6_weighs 33 = .ok (.if_icmp .le 38, 3) := by decide +kernel
theorem dX6_weighs_36 : decode cX6_weighs 36 = .ok (.aload_n 0, 1) := by decide +kernel
theorem dX6_weighs_37 : decode cX6_weighs 37 = .ok (.iload_n 1, 1) := by decide +kernel
theorem dX6_weighs_38 : decode cX6_weighs 38 = .ok (.putfield 159, 3) := by decide +kernel
theorem dX6_weighs_41 : decode cX6_weighs 41 = .ok (.aload_n 0, 1) := by decide +kernel
theorem dX6_weighs_42 : decode cX6_weighs 42 = .ok (.iload_n 2, 1) := by decide +kernel
theorem dX6_weighs_43 : decode cX6_weighs 43 = .ok (.putfield 162, 3) := by decide +kernel
theorem dX6_weighs_46 : decode cX6_weighs 46 = .ok (.iconst 0, 1) := by decide +kernel
theorem dX6_weighs_47 : decode cX6_weighs 47 = .ok (.istore_n 3, 1) := by decide +kernel
theorem dX6_weighs_48 : decode cX6_weighs 48 = .ok (.iload_n 3, 1) := by decide +kernel
theorem dX6_weighs_49 : decode cX6_weighs 49 = .ok (.iload_n 1, 1) := by decide +kernel
theorem dX6_weighs_50 : decode cX6_weighs 50 = .ok (.if_icmp .ge 21, 3) := by decide +kernel
theorem dX6_weighs_53 : decode cX6_weighs 53 = .ok (.aload_n 0, 1) := by decide +kernel
theorem dX6_weighs_54 : decode cX6_weighs 54 = .ok (.getfield 22, 3) := by decide +kernel
theorem dX6_weighs_57 : decode cX6_weighs 57 = .ok (.iload_n 3, 1) := by decide +kernel
theorem dX6_weighs_58 : decode cX6_weighs 58 = .ok (.aload_n 0, 1) := by decide +kernel
theorem dX6_weighs_59 : decode cX6_weighs 59 = .ok (.getfield 19, 3) := by decide +kernel
theorem dX6_weighs_62 : decode cX6_weighs 62 = .ok (.iload_n 3, 1) := by decide +kernel
theorem dX6_weighs_63 : decode cX6_weighs 63 = .ok (.iaload, 1) := by decide +kernel
theorem dX6_weighs_64 : decode cX6_weighs 64 = .ok (.iastore, 1) := by decide +kernel
theorem dX6_weighs_65 : decode cX6_weighs 65 = .ok (.iinc 3 1, 3) := by decide +kernel
theorem dX6_weighs_68 : decode cX6_weighs 68 = .ok (.goto (-20), 3) := by decide +kernel
theorem dX6_weighs_71 : decode cX6_weighs 71 = .ok (.return_, 1) := by decide +kernel
theorem dX6_searches_0 : decode cX6_searches 0 = .ok (.aload_n 0, 1) := by decide +kernel
theorem dX6_searches_1 : decode cX6_searches 1 = .ok (.iconst 0, 1) := by decide +kernel
theorem dX6_searches_2 : decode cX6_searches 2 = .ok (.putfield 159, 3) := by decide +kernel
theorem dX6_searches_5 : decode cX6_searches 5 = .ok (.aload_n 0, 1) := by decide +kernel
theorem dX6_searches_6 : decode cX6_searches 6 = .ok (.invokevirtual 100, 3) := by decide +kernel
theorem dX6_searches_9 : decode cX6_searches 9 = .ok (.ifCond .eq 4, 3) := by decide +kernel
theorem dX6_searches_12 : decode cX6_searches 12 = .ok (.return_, 1) := by decide +kernel
theorem dX6_searches_13 : decode cX6_searches 13 = .ok (.iconst 0, 1) := by decide +kernel
theorem dX6_searches_14 : decode cX6_searches 14 = .ok (.istore_n 2, 1) := by decide +kernel
theorem dX6_searches_15 : decode cX6_searches 15 = .ok (.aload_n 0, 1) := by decide +kernel
theorem dX6_searches_16 : decode cX6_searches 16 = .ok (.getfield 19, 3) := by decide +kernel
theorem dX6_searches_19 : decode cX6_searches 19 = .ok (.iconst 0, 1) := by decide +kernel
theorem dX6_searches_20 : decode cX6_searches 20 = .ok (.iconst (-1), 1) := by decide +kernel
theorem dX6_searches_21 : decode cX6_searches 21 = .ok (.iastore, 1) := by decide +kernel
theorem dX6_searches_22 : decode cX6_searches 22 = .ok (.aload_n 0, 1) := by decide +kernel
theorem dX6_searches_23 : decode cX6_searches 23 = .ok (.iconst 0, 1) := by decide +kernel
theorem dX6_searches_24 : decode cX6_searches 24 = .ok (.invokevirtual 165, 3) := by decide +kernel
theorem dX6_searches_27 : decode cX6_searches 27 = .ok (.iload_n 2, 1) := by decide +kernel
theorem dX6_searches_28 : decode cX6_searches 28 = .ok (.ifCond .lt 131, 3) := by decide +kernel
theorem dX6_searches_31 : decode cX6_searches 31 = .ok (.aload_n 0, 1) := by decide +kernel
theorem dX6_searches_32 : decode cX6_searches 32 = .ok (.iload_n 2, 1) := by decide +kernel
theorem dX6_searches_33 : decode cX6_searches 33 = .ok (.invokevirtual 168, 3) := by decide +kernel
theorem dX6_searches_36 : decode cX6_searches 36 = .ok (.aload_n 0, 1) := by decide +kernel
theorem dX6_searches_37 : decode cX6_searches 37 = .ok (.getfield 19, 3) := by decide +kernel
theorem dX6_searches_40 : decode cX6_searches 40 = .ok (.iload_n 2, 1) := by decide +kernel
theorem dX6_searches_41 : decode cX6_searches 41 = .ok (.aload_n 0, 1) := by decide +kernel
theorem dX6_searches_42 : decode cX6_searches 42 = .ok (.aload_n 0, 1) := by decide +kernel
theorem dX6_searches_43 : decode cX6_searches 43 = .ok (.getfield 19, 3) := by decide +kernel
theorem dX6_searches_46 : decode cX6_searches 46 = .ok (.iload_n 2, 1) := by decide +kernel
theorem dX6_searches_47 : decode cX6_searches 47 = .ok (.iaload, 1) := by decide +kernel
theorem dX6_searches_48 : decode cX6_searches 48 = .ok (.invokevirtual 150, 3) := by decide +kernel
theorem dX6_searches_51 : decode cX6_searches 51 = .ok (.iastore, 1) := by decide +kernel
theorem dX6_searches_52 : decode cX6_searches 52 = .ok (.aload_n 0, 1) := by decide +kernel
theorem dX6_searches_53 : decode cX6_searches 53 = .ok (.getfield 19, 3) := by decide +kernel
theorem dX6_searches_56 : decode cX6_searches 56 = .ok (.iload_n 2, 1) := by decide +kernel
theorem dX6_searches_57 : decode cX6_searches 57 = .ok (.iaload, 1) := by decide +kernel
theorem dX6_searches_58 : decode cX6_searches 58 = .ok (.iconst (-1), 1) := by decide +kernel
theorem dX6_searches_59 : decode cX6_searches 59 = .ok (.if_icmp .ne 9, 3) := by decide +kernel
theorem dX6_searches_62 : decode cX6_searches 62 = .ok (.iinc 2 (-1), 3) := by decide +kernel
theorem dX6_searches_65 : decode cX6_searches 65 = .ok (.goto (-38), 3) := by decide +kernel
theorem dX6_searches_68 : decode cX6_searches 68 = .ok (.aload_n 0, 1) := by decide +kernel
theorem dX6_searches_69 : decode cX6_searches 69 = .ok (.aload_n 0, 1) := by decide +kernel
theorem dX6_searches_70 : decode cX6_searches 70 = .ok (.getfield 19, 3) := by decide +kernel
theorem dX6_searches_73 : decode cX6_searches 73 = .ok (.iload_n 2, 1) := by decide +kernel
theorem dX6_searches_74 : decode cX6_searches 74 = .ok (.iaload, 1) := by decide +kernel
theorem dX6_searches_75 : decode cX6_searches 75 = .ok (.bipush 25, 2) := by decide +kernel
theorem dX6_searches_77 : decode cX6_searches 77 = .ok (.idiv, 1) := by decide +kernel
theorem dX6_searches_78 : decode cX6_searches 78 = .ok (.aload_n 0, 1) := by decide +kernel
theorem dX6_searches_79 : decode cX6_searches 79 = .ok (.getfield 19, 3) := by decide +kernel
theorem dX6_searches_82 : decode cX6_searches 82 = .ok (.iload_n 2, 1) := by decide +kernel
theorem dX6_searches_83 : decode cX6_searches 83 = .ok (.iaload, 1) := by decide +kernel
theorem dX6_searches_84 : decode cX6_searches 84 = .ok (.bipush 25, 2) := by decide +kernel
theorem dX6_searches_86 : decode cX6_searches 86 = .ok (.irem, 1) := by decide +kernel
theorem dX6_searches_87 : decode cX6_searches 87 = .ok (.invokevirtual 132, 3) := by decide +kernel
theorem dX6_searches_90 : decode cX6_searches 90 = .ok (.iload_n 2, 1) := by decide +kernel
theorem dX6_searches_91 : decode cX6_searches 91 = .ok (.iconst 1, 1) := by decide +kernel
theorem dX6_searches_92 : decode cX6_searches 92 = .ok (.iadd, 1) := by decide +kernel
theorem dX6_searches_93 : decode cX6_searches 93 = .ok (.iload_n 1, 1) := by decide +kernel
theorem dX6_searches_94 : decode cX6_searches 94 = .ok (.if_icmp .ge 31, 3) := by decide +kernel
theorem dX6_searches_97 : decode cX6_searches 97 = .ok (.aload_n 0, 1) := by decide +kernel
theorem dX6_searches_98 : decode cX6_searches 98 = .ok (.aload_n 0, 1) := by decide +kernel
theorem dX6_searches_99 : decode cX6_searches 99 = .ok (.getfield 7, 3) := by decide +kernel
theorem dX6_searches_102 : decode cX6_searches 102 = .ok (.iconst 3, 1) := by decide +kernel
theorem dX6_searches_103 : decode cX6_searches 103 = .ok (.iaload, 1) := by decide +kernel
theorem dX6_searches_104 : decode cX6_searches 104 = .ok (.bipush 7, 2) := by decide +kernel
theorem dX6_searches_106 : decode cX6_searches 106 = .ok (.invokevirtual 44, 3) := by decide +kernel
theorem dX6_searches_109 : decode cX6_searches 109 = .ok (.ifCond .le 16, 3) := by decide +kernel
theorem dX6_searches_112 : decode cX6_searches 112 = .ok (.aload_n 0, 1) := by decide +kernel
theorem dX6_searches_113 : decode cX6_searches 113 = .ok (.iconst (-1), 1) := by decide +kernel
theorem dX6_searches_114 : decode cX6_searches 114 = .ok (.invokevirtual 150, 3) := by decide +kernel
theorem dX6_searches_117 : decode cX6_searches 117 = .ok (.iconst (-1), 1) := by decide +kernel
theorem dX6_searches_118 : decode cX6_searches 118 = .ok (.if_icmp .eq 7, 3) := by decide +kernel
theorem dX6_searches_121 : decode cX6_searches 121 = .ok (.iconst 1, 1) := by decide +kernel
theorem dX6_searches_122 : decode cX6_searches 122 = .ok (.goto 4, 3) := by decide +kernel
theorem dX6_searches_125 : decode cX6_searches 125 = .ok (.iconst 0, 1) := by decide +kernel
theorem dX6_searches_126 : decode cX6_searches 126 = .ok (.istore_n 3, 1) := by decide +kernel
theorem dX6_searches_127 : decode cX6_searches 127 = .ok (.iload_n 3, 1) := by decide +kernel
theorem dX6_searches_128 : decode cX6_searches 128 = .ok (.ifCond .eq 21, 3) := by decide +kernel
theorem dX6_searches_131 : decode cX6_searches 131 = .ok (.iinc 2 1, 3) := by decide +kernel
theorem dX6_searches_134 : decode cX6_searches 134 = .ok (.aload_n 0, 1) := by decide +kernel
theorem dX6_searches_135 : decode cX6_searches 135 = .ok (.getfield 19, 3) := by decide +kernel
theorem dX6_searches_138 : decode cX6_searches 138 = .ok (.iload_n 2, 1) := by decide +kernel
theorem dX6_searches_139 : decode cX6_searches 139 = .ok (.iconst (-1), 1) := by decide +kernel
theorem dX6_searches_140 : decode cX6_searches 140 = .ok (.iastore, 1) := by decide +kernel
theorem dX6_searches_141 : decode cX6_searches 141 = .ok (.aload_n 0, 1) := by decide +kernel
theorem dX6_searches_142 : decode cX6_searches 142 = .ok (.iload_n 2, 1) := by decide +kernel
theorem dX6_searches_143 : decode cX6_searches 143 = .ok (.invokevirtual 165, 3) := by decide +kernel
theorem dX6_searches_146 : decode cX6_searches 146 = .ok (.goto 10, 3) := by decide +kernel
theorem dX6_searches_149 : decode cX6_searches 149 = .ok (.aload_n 0, 1) := by decide +kernel
theorem dX6_searches_150 : decode cX6_searches 150 = .ok (.iload_n 2, 1) := by decide +kernel
theorem dX6_searches_151 : decode cX6_searches 151 = .ok (.iconst 1, 1) := by decide +kernel
theorem dX6_searches_152 : decode cX6_searches 152 = .ok (.iadd, 1) := by decide +kernel
theorem dX6_searches_153 : decode cX6_searches 153 = .ok (.invokevirtual 171, 3) := by decide +kernel
theorem dX6_searches_156 : decode cX6_searches 156 = .ok (.goto (-129), 3) := by decide +kernel
theorem dX6_searches_159 : decode cX6_searches 159 = .ok (.aload_n 0, 1) := by decide +kernel
theorem dX6_searches_160 : decode cX6_searches 160 = .ok (.iconst 0, 1) := by decide +kernel
theorem dX6_searches_161 : decode cX6_searches 161 = .ok (.invokevirtual 168, 3) := by decide +kernel
theorem dX6_searches_164 : decode cX6_searches 164 = .ok (.return_, 1) := by decide +kernel
theorem dX6_told_0 : decode cX6_told 0 = .ok (.bipush 100, 2) := by decide +kernel
theorem dX6_told_2 : decode cX6_told 2 = .ok (.iload_n 0, 1) := by decide +kernel
theorem dX6_told_3 : decode cX6_told 3 = .ok (.bipush 25, 2) := by decide +kernel
theorem dX6_told_5 : decode cX6_told 5 = .ok (.idiv, 1) := by decide +kernel
theorem dX6_told_6 : decode cX6_told 6 = .ok (.imul, 1) := by decide +kernel
theorem dX6_told_7 : decode cX6_told 7 = .ok (.iload_n 0, 1) := by decide +kernel
theorem dX6_told_8 : decode cX6_told 8 = .ok (.bipush 25, 2) := by decide +kernel
theorem dX6_told_10 : decode cX6_told 10 = .ok (.irem, 1) := by decide +kernel
theorem dX6_told_11 : decode cX6_told 11 = .ok (.iadd, 1) := by decide +kernel
theorem dX6_told_12 : decode cX6_told 12 = .ok (.ireturn, 1) := by decide +kernel
theorem dX6_play_0 : decode cX6_play 0 = .ok (.aload_n 0, 1) := by decide +kernel
theorem dX6_play_1 : decode cX6_play 1 = .ok (.iload_n 1, 1) := by decide +kernel
theorem dX6_play_2 : decode cX6_play 2 = .ok (.iconst 1, 1) := by decide +kernel
theorem dX6_play_3 : decode cX6_play 3 = .ok (.iconst 2, 1) := by decide +kernel
theorem dX6_play_4 : decode cX6_play 4 = .ok (.invokestatic 47, 3) := by decide +kernel
theorem dX6_play_7 : decode cX6_play 7 = .ok (.ifCond .eq 17, 3) := by decide +kernel
theorem dX6_play_10 : decode cX6_play 10 = .ok (.iload_n 2, 1) := by decide +kernel
theorem dX6_play_11 : decode cX6_play 11 = .ok (.iconst 1, 1) := by decide +kernel
theorem dX6_play_12 : decode cX6_play 12 = .ok (.bipush 10, 2) := by decide +kernel
theorem dX6_play_14 : decode cX6_play 14 = .ok (.invokestatic 47, 3) := by decide +kernel
theorem dX6_play_17 : decode cX6_play 17 = .ok (.ifCond .eq 7, 3) := by decide +kernel
theorem dX6_play_20 : decode cX6_play 20 = .ok (.iconst 0, 1) := by decide +kernel
theorem dX6_play_21 : decode cX6_play 21 = .ok (.goto 4, 3) := by decide +kernel
theorem dX6_play_24 : decode cX6_play 24 = .ok (.iconst 1, 1) := by decide +kernel
theorem dX6_play_25 : decode cX6_play 25 = .ok (.invokevirtual 36, 3) := by decide +kernel
theorem dX6_play_28 : decode cX6_play 28 = .ok (.ifCond .eq 5, 3) := by decide +kernel
theorem dX6_play_31 : decode cX6_play 31 = .ok (.iconst 0, 1) := by decide +kernel
theorem dX6_play_32 : decode cX6_play 32 = .ok (.ireturn, 1) := by decide +kernel
theorem dX6_play_33 : decode cX6_play 33 = .ok (.aload_n 0, 1) := by decide +kernel
theorem dX6_play_34 : decode cX6_play 34 = .ok (.invokevirtual 138, 3) := by decide +kernel
theorem dX6_play_37 : decode cX6_play 37 = .ok (.iconst 0, 1) := by decide +kernel
theorem dX6_play_38 : decode cX6_play 38 = .ok (.istore_n 3, 1) := by decide +kernel
theorem dX6_play_39 : decode cX6_play 39 = .ok (.iload_n 3, 1) := by decide +kernel
theorem dX6_play_40 : decode cX6_play 40 = .ok (.iload_n 2, 1) := by decide +kernel
theorem dX6_play_41 : decode cX6_play 41 = .ok (.if_icmp .ge 57, 3) := by decide +kernel
theorem dX6_play_44 : decode cX6_play 44 = .ok (.aload_n 0, 1) := by decide +kernel
theorem dX6_play_45 : decode cX6_play 45 = .ok (.invokevirtual 100, 3) := by decide +kernel
theorem dX6_play_48 : decode cX6_play 48 = .ok (.ifCond .ne 50, 3) := by decide +kernel
theorem dX6_play_51 : decode cX6_play 51 = .ok (.aload_n 0, 1) := by decide +kernel
theorem dX6_play_52 : decode cX6_play 52 = .ok (.iload_n 1, 1) := by decide +kernel
theorem dX6_play_53 : decode cX6_play 53 = .ok (.invokevirtual 174, 3) := by decide +kernel
theorem dX6_play_56 : decode cX6_play 56 = .ok (.aload_n 0, 1) := by decide +kernel
theorem dX6_play_57 : decode cX6_play 57 = .ok (.getfield 159, 3) := by decide +kernel
theorem dX6_play_60 : decode cX6_play 60 = .ok (.ifCond .ne 10, 3) := by decide +kernel
theorem dX6_play_63 : decode cX6_play 63 = .ok (.aload_n 0, 1) := by decide +kernel
theorem dX6_play_64 : decode cX6_play 64 = .ok (.invokevirtual 153, 3) := by decide +kernel
theorem dX6_play_67 : decode cX6_play 67 = .ok (.goto 25, 3) := by decide +kernel
theorem dX6_play_70 : decode cX6_play 70 = .ok (.aload_n 0, 1) := by decide +kernel
theorem dX6_play_71 : decode cX6_play 71 = .ok (.aload_n 0, 1) := by decide +kernel
theorem dX6_play_72 : decode cX6_play 72 = .ok (.getfield 22, 3) := by decide +kernel
theorem dX6_play_75 : decode cX6_play 75 = .ok (.iconst 0, 1) := by decide +kernel
theorem dX6_play_76 : decode cX6_play 76 = .ok (.iaload, 1) := by decide +kernel
theorem dX6_play_77 : decode cX6_play 77 = .ok (.bipush 25, 2) := by decide +kernel
theorem dX6_play_79 : decode cX6_play 79 = .ok (.idiv, 1) := by decide +kernel
theorem dX6_play_80 : decode cX6_play 80 = .ok (.aload_n 0, 1) := by decide +kernel
theorem dX6_play_81 : decode cX6_play 81 = .ok (.getfield 22, 3) := by decide +kernel
theorem dX6_play_84 : decode cX6_play 84 = .ok (.iconst 0, 1) := by decide +kernel
theorem dX6_play_85 : decode cX6_play 85 = .ok (.iaload, 1) := by decide +kernel
theorem dX6_play_86 : decode cX6_play 86 = .ok (.bipush 25, 2) := by decide +kernel
theorem dX6_play_88 : decode cX6_play 88 = .ok (.irem, 1) := by decide +kernel
theorem dX6_play_89 : decode cX6_play 89 = .ok (.invokevirtual 147, 3) := by decide +kernel
theorem dX6_play_92 : decode cX6_play 92 = .ok (.iinc 3 1, 3) := by decide +kernel
theorem dX6_play_95 : decode cX6_play 95 = .ok (.goto (-56), 3) := by decide +kernel
theorem dX6_play_98 : decode cX6_play 98 = .ok (.iload_n 3, 1) := by decide +kernel
theorem dX6_play_99 : decode cX6_play 99 = .ok (.ireturn, 1) := by decide +kernel
theorem dX6_players_0 : decode cX6_players 0 = .ok (.aload_n 0, 1) := by decide +kernel
theorem dX6_players_1 : decode cX6_players 1 = .ok (.iconst 0, 1) := by decide +kernel
theorem dX6_players_2 : decode cX6_players 2 = .ok (.putfield 29, 3) := by decide +kernel
theorem dX6_players_5 : decode cX6_players 5 = .ok (.aload_n 0, 1) := by decide +kernel
theorem dX6_players_6 : decode cX6_players 6 = .ok (.getfield 7, 3) := by decide +kernel
theorem dX6_players_9 : decode cX6_players 9 = .ok (.iconst 0, 1) := by decide +kernel
theorem dX6_players_10 : decode cX6_players 10 = .ok (.iaload, 1) := by decide +kernel
theorem dX6_players_11 : decode cX6_players 11 = .ok (.ireturn, 1) := by decide +kernel
theorem dX6_round_0 : decode cX6_round 0 = .ok (.aload_n 0, 1) := by decide +kernel
theorem dX6_round_1 : decode cX6_round 1 = .ok (.iconst 0, 1) := by decide +kernel
theorem dX6_round_2 : decode cX6_round 2 = .ok (.putfield 29, 3) := by decide +kernel
theorem dX6_round_5 : decode cX6_round 5 = .ok (.aload_n 0, 1) := by decide +kernel
theorem dX6_round_6 : decode cX6_round 6 = .ok (.getfield 7, 3) := by decide +kernel
theorem dX6_round_9 : decode cX6_round 9 = .ok (.iconst 2, 1) := by decide +kernel
theorem dX6_round_10 : decode cX6_round 10 = .ok (.iaload, 1) := by decide +kernel
theorem dX6_round_11 : decode cX6_round 11 = .ok (.ireturn, 1) := by decide +kernel
theorem dX6_inTurn_0 : decode cX6_inTurn 0 = .ok (.aload_n 0, 1) := by decide +kernel
theorem dX6_inTurn_1 : decode cX6_inTurn 1 = .ok (.iconst 0, 1) := by decide +kernel
theorem dX6_inTurn_2 : decode cX6_inTurn 2 = .ok (.putfield 29, 3) := by decide +kernel
theorem dX6_inTurn_5 : decode cX6_inTurn 5 = .ok (.aload_n 0, 1) := by decide +kernel
theorem dX6_inTurn_6 : decode cX6_inTurn 6 = .ok (.getfield 7, 3) := by decide +kernel
theorem dX6_inTurn_9 : decode cX6_inTurn 9 = .ok (.iconst 3, 1) := by decide +kernel
theorem dX6_inTurn_10 : decode cX6_inTurn 10 = .ok (.iaload, 1) := by decide +kernel
theorem dX6_inTurn_11 : decode cX6_inTurn 11 = .ok (.ireturn, 1) := by decide +kernel
theorem dX6_startPlayer_0 : decode cX6_startPlayer 0 = .ok (.aload_n 0, 1) := by decide +kernel
theorem dX6_startPlayer_1 : decode cX6_startPlayer 1 = .ok (.iconst 0, 1) := by decide +kernel
theorem dX6_startPlayer_2 : decode cX6_startPlayer 2 = .ok (.putfield 29, 3) := by decide +kernel
theorem dX6_startPlayer_5 : decode cX6_startPlayer 5 = .ok (.aload_n 0, 1) := by decide +kernel
theorem dX6_startPlayer_6 : decode cX6_startPlayer 6 = .ok (.getfield 7, 3) := by decide +kernel
theorem dX6_startPlayer_9 : decode cX6_startPlayer 9 = .ok (.iconst 4, 1) := by decide +kernel
theorem dX6_startPlayer_10 : decode cX6_startPlayer 10 = .ok (.iaload, 1) := by decide +kernel
theorem dX6_startPlayer_11 : decode cX6_startPlayer 11 = .ok (.ireturn, 1) := by decide +kernel
theorem dX6_goods_0 : decode cX6_goods 0 = .ok (.aload_n 0, 1) := by decide +kernel
theorem dX6_goods_1 : decode cX6_goods 1 = .ok (.aload_n 0, 1) := by decide +kernel
theorem dX6_goods_2 : decode cX6_goods 2 = .ok (.iload_n 1, 1) := by decide +kernel
theorem dX6_goods_3 : decode cX6_goods 3 = .ok (.invokevirtual 177, 3) := by decide +kernel
theorem dX6_goods_6 : decode cX6_goods 6 = .ok (.ifCond .ne 7, 3) := by decide +kernel
theorem dX6_goods_9 : decode cX6_goods 9 = .ok (.iconst 1, 1) := by decide +kernel
theorem dX6_goods_10 : decode cX6_goods 10 = .ok (.goto 17, 3) := by decide +kernel
theorem dX6_goods_13 : decode cX6_goods 13 = .ok (.iload_n 2, 1) := by decide +kernel
theorem dX6_goods_14 : decode cX6_goods 14 = .ok (.iconst 0, 1) := by decide +kernel
theorem dX6_goods_15 : decode cX6_goods 15 = .ok (.iconst 4, 1) := by decide +kernel
theorem dX6_goods_16 : decode cX6_goods 16 = .ok (.invokestatic 47, 3) := by decide +kernel
theorem dX6_goods_19 : decode cX6_goods 19 = .ok (.ifCond .eq 7, 3) := by decide +kernel
theorem dX6_goods_22 : decode cX6_goods 22 = .ok (.iconst 0, 1) := by decide +kernel
theorem dX6_goods_23 : decode cX6_goods 23 = .ok (.goto 4, 3) := by decide +kernel
theorem dX6_goods_26 : decode cX6_goods 26 = .ok (.iconst 2, 1) := by decide +kernel
theorem dX6_goods_27 : decode cX6_goods 27 = .ok (.invokevirtual 36, 3) := by decide +kernel
theorem dX6_goods_30 : decode cX6_goods 30 = .ok (.ifCond .eq 7, 3) := by decide +kernel
theorem dX6_goods_33 : decode cX6_goods 33 = .ok (.iconst 0, 1) := by decide +kernel
theorem dX6_goods_34 : decode cX6_goods 34 = .ok (.goto 9, 3) := by decide +kernel
theorem dX6_goods_37 : decode cX6_goods 37 = .ok (.aload_n 0, 1) := by decide +kernel
theorem dX6_goods_38 : decode cX6_goods 38 = .ok (.iload_n 1, 1) := by decide +kernel
theorem dX6_goods_39 : decode cX6_goods 39 = .ok (.iload_n 2, 1) := by decide +kernel
theorem dX6_goods_40 : decode cX6_goods 40 = .ok (.invokevirtual 44, 3) := by decide +kernel
theorem dX6_goods_43 : decode cX6_goods 43 = .ok (.ireturn, 1) := by decide +kernel
theorem dX6_player_0 : decode cX6_player 0 = .ok (.aload_n 0, 1) := by decide +kernel
theorem dX6_player_1 : decode cX6_player 1 = .ok (.aload_n 0, 1) := by decide +kernel
theorem dX6_player_2 : decode cX6_player 2 = .ok (.iload_n 1, 1) := by decide +kernel
theorem dX6_player_3 : decode cX6_player 3 = .ok (.invokevirtual 177, 3) := by decide +kernel
theorem dX6_player_6 : decode cX6_player 6 = .ok (.ifCond .ne 7, 3) := by decide +kernel
theorem dX6_player_9 : decode cX6_player 9 = .ok (.iconst 1, 1) := by decide +kernel
theorem dX6_player_10 : decode cX6_player 10 = .ok (.goto 17, 3) := by decide +kernel
theorem dX6_player_13 : decode cX6_player 13 = .ok (.iload_n 2, 1) := by decide +kernel
theorem dX6_player_14 : decode cX6_player 14 = .ok (.iconst 0, 1) := by decide +kernel
theorem dX6_player_15 : decode cX6_player 15 = .ok (.iconst 5, 1) := by decide +kernel
theorem dX6_player_16 : decode cX6_player 16 = .ok (.invokestatic 47, 3) := by decide +kernel
theorem dX6_player_19 : decode cX6_player 19 = .ok (.ifCond .eq 7, 3) := by decide +kernel
theorem dX6_player_22 : decode cX6_player 22 = .ok (.iconst 0, 1) := by decide +kernel
theorem dX6_player_23 : decode cX6_player 23 = .ok (.goto 4, 3) := by decide +kernel
theorem dX6_player_26 : decode cX6_player 26 = .ok (.iconst 2, 1) := by decide +kernel
theorem dX6_player_27 : decode cX6_player 27 = .ok (.invokevirtual 36, 3) := by decide +kernel
theorem dX6_player_30 : decode cX6_player 30 = .ok (.ifCond .eq 7, 3) := by decide +kernel
theorem dX6_player_33 : decode cX6_player 33 = .ok (.iconst 0, 1) := by decide +kernel
theorem dX6_player_34 : decode cX6_player 34 = .ok (.goto 11, 3) := by decide +kernel
theorem dX6_player_37 : decode cX6_player 37 = .ok (.aload_n 0, 1) := by decide +kernel
theorem dX6_player_38 : decode cX6_player 38 = .ok (.iload_n 1, 1) := by decide +kernel
theorem dX6_player_39 : decode cX6_player 39 = .ok (.iconst 5, 1) := by decide +kernel
theorem dX6_player_40 : decode cX6_player 40 = .ok (.iload_n 2, 1) := by decide +kernel
theorem dX6_player_41 : decode cX6_player 41 = .ok (.iadd, 1) := by decide +kernel
theorem dX6_player_42 : decode cX6_player 42 = .ok (.invokevirtual 44, 3) := by decide +kernel
theorem dX6_player_45 : decode cX6_player 45 = .ok (.ireturn, 1) := by decide +kernel
theorem dX6_owner_0 : decode cX6_owner 0 = .ok (.aload_n 0, 1) := by decide +kernel
theorem dX6_owner_1 : decode cX6_owner 1 = .ok (.iload_n 1, 1) := by decide +kernel
theorem dX6_owner_2 : decode cX6_owner 2 = .ok (.iconst 0, 1) := by decide +kernel
theorem dX6_owner_3 : decode cX6_owner 3 = .ok (.bipush 7, 2) := by decide +kernel
theorem dX6_owner_5 : decode cX6_owner 5 = .ok (.invokestatic 47, 3) := by decide +kernel
theorem dX6_owner_8 : decode cX6_owner 8 = .ok (.ifCond .eq 7, 3) := by decide +kernel
theorem dX6_owner_11 : decode cX6_owner 11 = .ok (.iconst 0, 1) := by decide +kernel
theorem dX6_owner_12 : decode cX6_owner 12 = .ok (.goto 4, 3) := by decide +kernel
theorem dX6_owner_15 : decode cX6_owner 15 = .ok (.iconst 1, 1) := by decide +kernel
theorem dX6_owner_16 : decode cX6_owner 16 = .ok (.invokevirtual 36, 3) := by decide +kernel
theorem dX6_owner_19 : decode cX6_owner 19 = .ok (.ifCond .eq 7, 3) := by decide +kernel
theorem dX6_owner_22 : decode cX6_owner 22 = .ok (.iconst 0, 1) := by decide +kernel
theorem dX6_owner_23 : decode cX6_owner 23 = .ok (.goto 8, 3) := by decide +kernel
theorem dX6_owner_26 : decode cX6_owner 26 = .ok (.aload_n 0, 1) := by decide +kernel
theorem dX6_owner_27 : decode cX6_owner 27 = .ok (.iload_n 1, 1) := by decide +kernel
theorem dX6_owner_28 : decode cX6_owner 28 = .ok (.invokevirtual 97, 3) := by decide +kernel
theorem dX6_owner_31 : decode cX6_owner 31 = .ok (.ireturn, 1) := by decide +kernel
theorem dX6_tellSpace_0 : decode cX6_tellSpace 0 = .ok (.iload_n 2, 1) := by decide +kernel
theorem dX6_tellSpace_1 : decode cX6_tellSpace 1 = .ok (.tableswitch 54 0 2 #[27, 38, 49], 27) := by decide +kernel
theorem dX6_tellSpace_28 : decode cX6_tellSpace 28 = .ok (.aload_n 0, 1) := by decide +kernel
theorem dX6_tellSpace_29 : decode cX6_tellSpace 29 = .ok (.getfield 7, 3) := by decide +kernel
theorem dX6_tellSpace_32 : decode cX6_tellSpace 32 = .ok (.iload_n 1, 1) := by decide +kernel
theorem dX6_tellSpace_33 : decode cX6_tellSpace 33 = .ok (.iconst 0, 1) := by decide +kernel
theorem dX6_tellSpace_34 : decode cX6_tellSpace 34 = .ok (.invokestatic 65, 3) := by decide +kernel
theorem dX6_tellSpace_37 : decode cX6_tellSpace 37 = .ok (.iaload, 1) := by decide +kernel
theorem dX6_tellSpace_38 : decode cX6_tellSpace 38 = .ok (.ireturn, 1) := by decide +kernel
theorem dX6_tellSpace_39 : decode cX6_tellSpace 39 = .ok (.aload_n 0, 1) := by decide +kernel
theorem dX6_tellSpace_40 : decode cX6_tellSpace 40 = .ok (.getfield 7, 3) := by decide +kernel
theorem dX6_tellSpace_43 : decode cX6_tellSpace 43 = .ok (.iload_n 1, 1) := by decide +kernel
theorem dX6_tellSpace_44 : decode cX6_tellSpace 44 = .ok (.iconst 1, 1) := by decide +kernel
theorem dX6_tellSpace_45 : decode cX6_tellSpace 45 = .ok (.invokestatic 65, 3) := by decide +kernel
theorem dX6_tellSpace_48 : decode cX6_tellSpace 48 = .ok (.iaload, 1) := by decide +kernel
theorem dX6_tellSpace_49 : decode cX6_tellSpace 49 = .ok (.ireturn, 1) := by decide +kernel
theorem dX6_tellSpace_50 : decode cX6_tellSpace 50 = .ok (.iload_n 1, 1) := by decide +kernel
theorem dX6_tellSpace_51 : decode cX6_tellSpace 51 = .ok (.invokestatic 104, 3) := by decide +kernel
theorem dX6_tellSpace_54 : decode cX6_tellSpace 54 = .ok (.ireturn, 1) := by decide +kernel
theorem dX6_tellSpace_55 : decode cX6_tellSpace 55 = .ok (.aload_n 0, 1) := by decide +kernel
theorem dX6_tellSpace_56 : decode cX6_tellSpace 56 = .ok (.getfield 7, 3) := by decide +kernel
theorem dX6_tellSpace_59 : decode cX6_tellSpace 59 = .ok (.iload_n 1, 1) := by decide +kernel
theorem dX6_tellSpace_60 : decode cX6_tellSpace 60 = .ok (.iconst 2, 1) := by decide +kernel
theorem dX6_tellSpace_61 : decode cX6_tellSpace 61 = .ok (.invokestatic 65, 3) := by decide +kernel
theorem dX6_tellSpace_64 : decode cX6_tellSpace 64 = .ok (.iaload, 1) := by decide +kernel
theorem dX6_tellSpace_65 : decode cX6_tellSpace 65 = .ok (.ireturn, 1) := by decide +kernel
theorem dX6_space_0 : decode cX6_space 0 = .ok (.aload_n 0, 1) := by decide +kernel
theorem dX6_space_1 : decode cX6_space 1 = .ok (.iload_n 1, 1) := by decide +kernel
theorem dX6_space_2 : decode cX6_space 2 = .ok (.invokestatic 141, 3) := by decide +kernel
theorem dX6_space_5 : decode cX6_space 5 = .ok (.ifCond .ne 7, 3) := by decide +kernel
theorem dX6_space_8 : decode cX6_space 8 = .ok (.iconst 1, 1) := by decide +kernel
theorem dX6_space_9 : decode cX6_space 9 = .ok (.goto 17, 3) := by decide +kernel
theorem dX6_space_12 : decode cX6_space 12 = .ok (.iload_n 2, 1) := by decide +kernel
theorem dX6_space_13 : decode cX6_space 13 = .ok (.iconst 0, 1) := by decide +kernel
theorem dX6_space_14 : decode cX6_space 14 = .ok (.iconst 3, 1) := by decide +kernel
theorem dX6_space_15 : decode cX6_space 15 = .ok (.invokestatic 47, 3) := by decide +kernel
theorem dX6_space_18 : decode cX6_space 18 = .ok (.ifCond .eq 7, 3) := by decide +kernel
theorem dX6_space_21 : decode cX6_space 21 = .ok (.iconst 0, 1) := by decide +kernel
theorem dX6_space_22 : decode cX6_space 22 = .ok (.goto 4, 3) := by decide +kernel
theorem dX6_space_25 : decode cX6_space 25 = .ok (.iconst 2, 1) := by decide +kernel
theorem dX6_space_26 : decode cX6_space 26 = .ok (.invokevirtual 36, 3) := by decide +kernel
theorem dX6_space_29 : decode cX6_space 29 = .ok (.ifCond .eq 7, 3) := by decide +kernel
theorem dX6_space_32 : decode cX6_space 32 = .ok (.iconst 0, 1) := by decide +kernel
theorem dX6_space_33 : decode cX6_space 33 = .ok (.goto 9, 3) := by decide +kernel
theorem dX6_space_36 : decode cX6_space 36 = .ok (.aload_n 0, 1) := by decide +kernel
theorem dX6_space_37 : decode cX6_space 37 = .ok (.iload_n 1, 1) := by decide +kernel
theorem dX6_space_38 : decode cX6_space 38 = .ok (.iload_n 2, 1) := by decide +kernel
theorem dX6_space_39 : decode cX6_space 39 = .ok (.invokevirtual 180, 3) := by decide +kernel
theorem dX6_space_42 : decode cX6_space 42 = .ok (.ireturn, 1) := by decide +kernel
theorem dX6_cost_0 : decode cX6_cost 0 = .ok (.iload_n 2, 1) := by decide +kernel
theorem dX6_cost_1 : decode cX6_cost 1 = .ok (.iconst (-1), 1) := by decide +kernel
theorem dX6_cost_2 : decode cX6_cost 2 = .ok (.bipush 7, 2) := by decide +kernel
theorem dX6_cost_4 : decode cX6_cost 4 = .ok (.invokestatic 47, 3) := by decide +kernel
theorem dX6_cost_7 : decode cX6_cost 7 = .ok (.ifCond .eq 16, 3) := by decide +kernel
theorem dX6_cost_10 : decode cX6_cost 10 = .ok (.iload_n 3, 1) := by decide +kernel
theorem dX6_cost_11 : decode cX6_cost 11 = .ok (.iconst 0, 1) := by decide +kernel
theorem dX6_cost_12 : decode cX6_cost 12 = .ok (.iconst 1, 1) := by decide +kernel
theorem dX6_cost_13 : decode cX6_cost 13 = .ok (.invokestatic 47, 3) := by decide +kernel
theorem dX6_cost_16 : decode cX6_cost 16 = .ok (.ifCond .eq 7, 3) := by decide +kernel
theorem dX6_cost_19 : decode cX6_cost 19 = .ok (.iconst 1, 1) := by decide +kernel
theorem dX6_cost_20 : decode cX6_cost 20 = .ok (.goto 4, 3) := by decide +kernel
theorem dX6_cost_23 : decode cX6_cost 23 = .ok (.iconst 0, 1) := by decide +kernel
theorem dX6_cost_24 : decode cX6_cost 24 = .ok (.istore 4, 2) := by decide +kernel
theorem dX6_cost_26 : decode cX6_cost 26 = .ok (.aload_n 0, 1) := by decide +kernel
theorem dX6_cost_27 : decode cX6_cost 27 = .ok (.aload_n 0, 1) := by decide +kernel
theorem dX6_cost_28 : decode cX6_cost 28 = .ok (.iload_n 1, 1) := by decide +kernel
theorem dX6_cost_29 : decode cX6_cost 29 = .ok (.invokevirtual 177, 3) := by decide +kernel
theorem dX6_cost_32 : decode cX6_cost 32 = .ok (.ifCond .ne 7, 3) := by decide +kernel
theorem dX6_cost_35 : decode cX6_cost 35 = .ok (.iconst 1, 1) := by decide +kernel
theorem dX6_cost_36 : decode cX6_cost 36 = .ok (.goto 13, 3) := by decide +kernel
theorem dX6_cost_39 : decode cX6_cost 39 = .ok (.iload 4, 2) := by decide +kernel
theorem dX6_cost_41 : decode cX6_cost 41 = .ok (.ifCond .eq 7, 3) := by decide +kernel
theorem dX6_cost_44 : decode cX6_cost 44 = .ok (.iconst 0, 1) := by decide +kernel
theorem dX6_cost_45 : decode cX6_cost 45 = .ok (.goto 4, 3) := by decide +kernel
theorem dX6_cost_48 : decode cX6_cost 48 = .ok (.iconst 2, 1) := by decide +kernel
theorem dX6_cost_49 : decode cX6_cost 49 = .ok (.invokevirtual 36, 3) := by decide +kernel
theorem dX6_cost_52 : decode cX6_cost 52 = .ok (.ifCond .eq 7, 3) := by decide +kernel
theorem dX6_cost_55 : decode cX6_cost 55 = .ok (.iconst 0, 1) := by decide +kernel
theorem dX6_cost_56 : decode cX6_cost 56 = .ok (.goto 10, 3) := by decide +kernel
theorem dX6_cost_59 : decode cX6_cost 59 = .ok (.aload_n 0, 1) := by decide +kernel
theorem dX6_cost_60 : decode cX6_cost 60 = .ok (.iload_n 1, 1) := by decide +kernel
theorem dX6_cost_61 : decode cX6_cost 61 = .ok (.iload_n 2, 1) := by decide +kernel
theorem dX6_cost_62 : decode cX6_cost 62 = .ok (.iload_n 3, 1) := by decide +kernel
theorem dX6_cost_63 : decode cX6_cost 63 = .ok (.invokevirtual 90, 3) := by decide +kernel
theorem dX6_cost_66 : decode cX6_cost 66 = .ok (.ireturn, 1) := by decide +kernel
theorem dX6_need_0 : decode cX6_need 0 = .ok (.aload_n 0, 1) := by decide +kernel
theorem dX6_need_1 : decode cX6_need 1 = .ok (.aload_n 0, 1) := by decide +kernel
theorem dX6_need_2 : decode cX6_need 2 = .ok (.iload_n 1, 1) := by decide +kernel
theorem dX6_need_3 : decode cX6_need 3 = .ok (.invokevirtual 177, 3) := by decide +kernel
theorem dX6_need_6 : decode cX6_need 6 = .ok (.ifCond .eq 7, 3) := by decide +kernel
theorem dX6_need_9 : decode cX6_need 9 = .ok (.iconst 0, 1) := by decide +kernel
theorem dX6_need_10 : decode cX6_need 10 = .ok (.goto 4, 3) := by decide +kernel
theorem dX6_need_13 : decode cX6_need 13 = .ok (.iconst 1, 1) := by decide +kernel
theorem dX6_need_14 : decode cX6_need 14 = .ok (.invokevirtual 36, 3) := by decide +kernel
theorem dX6_need_17 : decode cX6_need 17 = .ok (.ifCond .eq 7, 3) := by decide +kernel
theorem dX6_need_20 : decode cX6_need 20 = .ok (.iconst 0, 1) := by decide +kernel
theorem dX6_need_21 : decode cX6_need 21 = .ok (.goto 8, 3) := by decide +kernel
theorem dX6_need_24 : decode cX6_need 24 = .ok (.aload_n 0, 1) := by decide +kernel
theorem dX6_need_25 : decode cX6_need 25 = .ok (.iload_n 1, 1) := by decide +kernel
theorem dX6_need_26 : decode cX6_need 26 = .ok (.invokevirtual 72, 3) := by decide +kernel
theorem dX6_need_29 : decode cX6_need 29 = .ok (.ireturn, 1) := by decide +kernel
theorem dX6_missing_0 : decode cX6_missing 0 = .ok (.aload_n 0, 1) := by decide +kernel
theorem dX6_missing_1 : decode cX6_missing 1 = .ok (.aload_n 0, 1) := by decide +kernel
theorem dX6_missing_2 : decode cX6_missing 2 = .ok (.iload_n 1, 1) := by decide +kernel
theorem dX6_missing_3 : decode cX6_missing 3 = .ok (.invokevirtual 177, 3) := by decide +kernel
theorem dX6_missing_6 : decode cX6_missing 6 = .ok (.ifCond .eq 7, 3) := by decide +kernel
theorem dX6_missing_9 : decode cX6_missing 9 = .ok (.iconst 0, 1) := by decide +kernel
theorem dX6_missing_10 : decode cX6_missing 10 = .ok (.goto 4, 3) := by decide +kernel
theorem dX6_missing_13 : decode cX6_missing 13 = .ok (.iconst 1, 1) := by decide +kernel
theorem dX6_missing_14 : decode cX6_missing 14 = .ok (.invokevirtual 36, 3) := by decide +kernel
theorem dX6_missing_17 : decode cX6_missing 17 = .ok (.ifCond .eq 7, 3) := by decide +kernel
theorem dX6_missing_20 : decode cX6_missing 20 = .ok (.iconst 0, 1) := by decide +kernel
theorem dX6_missing_21 : decode cX6_missing 21 = .ok (.goto 8, 3) := by decide +kernel
theorem dX6_missing_24 : decode cX6_missing 24 = .ok (.aload_n 0, 1) := by decide +kernel
theorem dX6_missing_25 : decode cX6_missing 25 = .ok (.iload_n 1, 1) := by decide +kernel
theorem dX6_missing_26 : decode cX6_missing 26 = .ok (.invokevirtual 84, 3) := by decide +kernel
theorem dX6_missing_29 : decode cX6_missing 29 = .ok (.ireturn, 1) := by decide +kernel
theorem dX6_score_0 : decode cX6_score 0 = .ok (.aload_n 0, 1) := by decide +kernel
theorem dX6_score_1 : decode cX6_score 1 = .ok (.aload_n 0, 1) := by decide +kernel
theorem dX6_score_2 : decode cX6_score 2 = .ok (.iload_n 1, 1) := by decide +kernel
theorem dX6_score_3 : decode cX6_score 3 = .ok (.invokevirtual 177, 3) := by decide +kernel
theorem dX6_score_6 : decode cX6_score 6 = .ok (.ifCond .ne 7, 3) := by decide +kernel
theorem dX6_score_9 : decode cX6_score 9 = .ok (.iconst 1, 1) := by decide +kernel
theorem dX6_score_10 : decode cX6_score 10 = .ok (.goto 18, 3) := by decide +kernel
theorem dX6_score_13 : decode cX6_score 13 = .ok (.iload_n 2, 1) := by decide +kernel
theorem dX6_score_14 : decode cX6_score 14 = .ok (.iconst 0, 1) := by decide +kernel
theorem dX6_score_15 : decode cX6_score 15 = .ok (.bipush 6, 2) := by decide +kernel
theorem dX6_score_17 : decode cX6_score 17 = .ok (.invokestatic 47, 3) := by decide +kernel
theorem dX6_score_20 : decode cX6_score 20 = .ok (.ifCond .eq 7, 3) := by decide +kernel
theorem dX6_score_23 : decode cX6_score 23 = .ok (.iconst 0, 1) := by decide +kernel
theorem dX6_score_24 : decode cX6_score 24 = .ok (.goto 4, 3) := by decide +kernel
theorem dX6_score_27 : decode cX6_score 27 = .ok (.iconst 2, 1) := by decide +kernel
theorem dX6_score_28 : decode cX6_score 28 = .ok (.invokevirtual 36, 3) := by decide +kernel
theorem dX6_score_31 : decode cX6_score 31 = .ok (.ifCond .eq 7, 3) := by decide +kernel
theorem dX6_score_34 : decode cX6_score 34 = .ok (.iconst 0, 1) := by decide +kernel
theorem dX6_score_35 : decode cX6_score 35 = .ok (.goto 23, 3) := by decide +kernel
theorem dX6_score_38 : decode cX6_score 38 = .ok (.iload_n 2, 1) := by decide +kernel
theorem dX6_score_39 : decode cX6_score 39 = .ok (.bipush 6, 2) := by decide +kernel
theorem dX6_score_41 : decode cX6_score 41 = .ok (.if_icmp .ge 12, 3) := by decide +kernel
theorem dX6_score_44 : decode cX6_score 44 = .ok (.aload_n 0, 1) := by decide +kernel
theorem dX6_score_45 : decode cX6_score 45 = .ok (.iload_n 1, 1) := by decide +kernel
theorem dX6_score_46 : decode cX6_score 46 = .ok (.iload_n 2, 1) := by decide +kernel
theorem dX6_score_47 : decode cX6_score 47 = .ok (.invokevirtual 183, 3) := by decide +kernel
theorem dX6_score_50 : decode cX6_score 50 = .ok (.goto 8, 3) := by decide +kernel
theorem dX6_score_53 : decode cX6_score 53 = .ok (.aload_n 0, 1) := by decide +kernel
theorem dX6_score_54 : decode cX6_score 54 = .ok (.iload_n 1, 1) := by decide +kernel
theorem dX6_score_55 : decode cX6_score 55 = .ok (.invokevirtual 156, 3) := by decide +kernel
theorem dX6_score_58 : decode cX6_score 58 = .ok (.ireturn, 1) := by decide +kernel
theorem dX6_allOf_0 : decode cX6_allOf 0 = .ok (.aload_n 0, 1) := by decide +kernel
theorem dX6_allOf_1 : decode cX6_allOf 1 = .ok (.iload_n 1, 1) := by decide +kernel
theorem dX6_allOf_2 : decode cX6_allOf 2 = .ok (.iconst 0, 1) := by decide +kernel
theorem dX6_allOf_3 : decode cX6_allOf 3 = .ok (.invokevirtual 183, 3) := by decide +kernel
theorem dX6_allOf_6 : decode cX6_allOf 6 = .ok (.aload_n 0, 1) := by decide +kernel
theorem dX6_allOf_7 : decode cX6_allOf 7 = .ok (.iload_n 1, 1) := by decide +kernel
theorem dX6_allOf_8 : decode cX6_allOf 8 = .ok (.iconst 1, 1) := by decide +kernel
theorem dX6_allOf_9 : decode cX6_allOf 9 = .ok (.invokevirtual 183, 3) := by decide +kernel
theorem dX6_allOf_12 : decode cX6_allOf 12 = .ok (.iadd, 1) := by decide +kernel
theorem dX6_allOf_13 : decode cX6_allOf 13 = .ok (.aload_n 0, 1) := by decide +kernel
theorem dX6_allOf_14 : decode cX6_allOf 14 = .ok (.iload_n 1, 1) := by decide +kernel
theorem dX6_allOf_15 : decode cX6_allOf 15 = .ok (.iconst 2, 1) := by decide +kernel
theorem dX6_allOf_16 : decode cX6_allOf 16 = .ok (.invokevirtual 183, 3) := by decide +kernel
theorem dX6_allOf_19 : decode cX6_allOf 19 = .ok (.iadd, 1) := by decide +kernel
theorem dX6_allOf_20 : decode cX6_allOf 20 = .ok (.aload_n 0, 1) := by decide +kernel
theorem dX6_allOf_21 : decode cX6_allOf 21 = .ok (.iload_n 1, 1) := by decide +kernel
theorem dX6_allOf_22 : decode cX6_allOf 22 = .ok (.iconst 3, 1) := by decide +kernel
theorem dX6_allOf_23 : decode cX6_allOf 23 = .ok (.invokevirtual 183, 3) := by decide +kernel
theorem dX6_allOf_26 : decode cX6_allOf 26 = .ok (.iadd, 1) := by decide +kernel
theorem dX6_allOf_27 : decode cX6_allOf 27 = .ok (.aload_n 0, 1) := by decide +kernel
theorem dX6_allOf_28 : decode cX6_allOf 28 = .ok (.iload_n 1, 1) := by decide +kernel
theorem dX6_allOf_29 : decode cX6_allOf 29 = .ok (.iconst 4, 1) := by decide +kernel
theorem dX6_allOf_30 : decode cX6_allOf 30 = .ok (.invokevirtual 183, 3) := by decide +kernel
theorem dX6_allOf_33 : decode cX6_allOf 33 = .ok (.iadd, 1) := by decide +kernel
theorem dX6_allOf_34 : decode cX6_allOf 34 = .ok (.aload_n 0, 1) := by decide +kernel
theorem dX6_allOf_35 : decode cX6_allOf 35 = .ok (.iload_n 1, 1) := by decide +kernel
theorem dX6_allOf_36 : decode cX6_allOf 36 = .ok (.iconst 5, 1) := by decide +kernel
theorem dX6_allOf_37 : decode cX6_allOf 37 = .ok (.invokevirtual 183, 3) := by decide +kernel
theorem dX6_allOf_40 : decode cX6_allOf 40 = .ok (.iadd, 1) := by decide +kernel
theorem dX6_allOf_41 : decode cX6_allOf 41 = .ok (.ireturn, 1) := by decide +kernel
theorem dX6_rankOf_0 : decode cX6_rankOf 0 = .ok (.iconst 1, 1) := by decide +kernel
theorem dX6_rankOf_1 : decode cX6_rankOf 1 = .ok (.istore_n 2, 1) := by decide +kernel
theorem dX6_rankOf_2 : decode cX6_rankOf 2 = .ok (.iconst 0, 1) := by decide +kernel
theorem dX6_rankOf_3 : decode cX6_rankOf 3 = .ok (.istore_n 3, 1) := by decide +kernel
theorem dX6_rankOf_4 : decode cX6_rankOf 4 = .ok (.iload_n 3, 1) := by decide +kernel
theorem dX6_rankOf_5 : decode cX6_rankOf 5 = .ok (.aload_n 0, 1) := by decide +kernel
theorem dX6_rankOf_6 : decode cX6_rankOf 6 = .ok (.getfield 7, 3) := by decide +kernel
theorem dX6_rankOf_9 : decode cX6_rankOf 9 = .ok (.iconst 0, 1) := by decide +kernel
theorem dX6_rankOf_10 : decode cX6_rankOf 10 = .ok (.iaload, 1) := by decide +kernel
theorem dX6_rankOf_11 : decode cX6_rankOf 11 = .ok (.if_icmp .ge 55, 3) := by decide +kernel
theorem dX6_rankOf_14 : decode cX6_rankOf 14 = .ok (.aload_n 0, 1) := by decide +kernel
theorem dX6_rankOf_15 : decode cX6_rankOf 15 = .ok (.iload_n 3, 1) := by decide +kernel
theorem dX6_rankOf_16 : decode cX6_rankOf 16 = .ok (.invokevirtual 156, 3) := by decide +kernel
theorem dX6_rankOf_19 : decode cX6_rankOf 19 = .ok (.aload_n 0, 1) := by decide +kernel
theorem dX6_rankOf_20 : decode cX6_rankOf 20 = .ok (.iload_n 1, 1) := by decide +kernel
theorem dX6_rankOf_21 : decode cX6_rankOf 21 = .ok (.invokevirtual 156, 3) := by decide +kernel
theorem dX6_rankOf_24 : decode cX6_rankOf 24 = .ok (.isub, 1) := by decide +kernel
theorem dX6_rankOf_25 : decode cX6_rankOf 25 = .ok (.istore 4, 2) := by decide +kernel
theorem dX6_rankOf_27 : decode cX6_rankOf 27 = .ok (.iload_n 2, 1) := by decide +kernel
theorem dX6_rankOf_28 : decode cX6_rankOf 28 = .ok (.iload 4, 2) := by decide +kernel
theorem dX6_rankOf_30 : decode cX6_rankOf 30 = .ok (.ifCond .gt 23, 3) := by decide +kernel
theorem dX6_rankOf_33 : decode cX6_rankOf 33 = .ok (.iload 4, 2) := by decide +kernel
theorem dX6_rankOf_35 : decode cX6_rankOf 35 = .ok (.ifCond .ne 22, 3) := by decide +kernel
theorem dX6_rankOf_38 : decode cX6_rankOf 38 = .ok (.aload_n 0, 1) := by decide +kernel
theorem dX6_rankOf_39 : decode cX6_rankOf 39 = .ok (.iload_n 3, 1) := by decide +kernel
theorem dX6_rankOf_40 : decode cX6_rankOf 40 = .ok (.iconst 4, 1) := by decide +kernel
theorem dX6_rankOf_41 : decode cX6_rankOf 41 = .ok (.invokevirtual 44, 3) := by decide +kernel
theorem dX6_rankOf_44 : decode cX6_rankOf 44 = .ok (.aload_n 0, 1) := by decide +kernel
theorem dX6_rankOf_45 : decode cX6_rankOf 45 = .ok (.iload_n 1, 1) := by decide +kernel
theorem dX6_rankOf_46 : decode cX6_rankOf 46 = .ok (.iconst 4, 1) := by decide +kernel
theorem dX6_rankOf_47 : decode cX6_rankOf 47 = .ok (.invokevirtual 44, 3) := by decide +kernel
theorem dX6_rankOf_50 : decode cX6_rankOf 50 = .ok (.if_icmp .le 7, 3) := by decide +kernel
theorem dX6_rankOf_53 : decode cX6_rankOf 53 = .ok (.iconst 1, 1) := by decide +kernel
theorem dX6_rankOf_54 : decode cX6_rankOf 54 = .ok (.goto 4, 3) := by decide +kernel
theorem dX6_rankOf_57 : decode cX6_rankOf 57 = .ok (.iconst 0, 1) := by decide +kernel
theorem dX6_rankOf_58 : decode cX6_rankOf 58 = .ok (.iadd, 1) := by decide +kernel
theorem dX6_rankOf_59 : decode cX6_rankOf 59 = .ok (.istore_n 2, 1) := by decide +kernel
theorem dX6_rankOf_60 : decode cX6_rankOf 60 = .ok (.iinc 3 1, 3) := by decide +kernel
theorem dX6_rankOf_63 : decode cX6_rankOf 63 = .ok (.goto (-59), 3) := by decide +kernel
theorem dX6_rankOf_66 : decode cX6_rankOf 66 = .ok (.iload_n 2, 1) := by decide +kernel
theorem dX6_rankOf_67 : decode cX6_rankOf 67 = .ok (.ireturn, 1) := by decide +kernel
theorem dX6_rank_0 : decode cX6_rank 0 = .ok (.aload_n 0, 1) := by decide +kernel
theorem dX6_rank_1 : decode cX6_rank 1 = .ok (.aload_n 0, 1) := by decide +kernel
theorem dX6_rank_2 : decode cX6_rank 2 = .ok (.iload_n 1, 1) := by decide +kernel
theorem dX6_rank_3 : decode cX6_rank 3 = .ok (.invokevirtual 177, 3) := by decide +kernel
theorem dX6_rank_6 : decode cX6_rank 6 = .ok (.ifCond .eq 7, 3) := by decide +kernel
theorem dX6_rank_9 : decode cX6_rank 9 = .ok (.iconst 0, 1) := by decide +kernel
theorem dX6_rank_10 : decode cX6_rank 10 = .ok (.goto 4, 3) := by decide +kernel
theorem dX6_rank_13 : decode cX6_rank 13 = .ok (.iconst 1, 1) := by decide +kernel
theorem dX6_rank_14 : decode cX6_rank 14 = .ok (.invokevirtual 36, 3) := by decide +kernel
theorem dX6_rank_17 : decode cX6_rank 17 = .ok (.ifCond .eq 7, 3) := by decide +kernel
theorem dX6_rank_20 : decode cX6_rank 20 = .ok (.iconst 0, 1) := by decide +kernel
theorem dX6_rank_21 : decode cX6_rank 21 = .ok (.goto 8, 3) := by decide +kernel
theorem dX6_rank_24 : decode cX6_rank 24 = .ok (.aload_n 0, 1) := by decide +kernel
theorem dX6_rank_25 : decode cX6_rank 25 = .ok (.iload_n 1, 1) := by decide +kernel
theorem dX6_rank_26 : decode cX6_rank 26 = .ok (.invokevirtual 186, 3) := by decide +kernel
theorem dX6_rank_29 : decode cX6_rank 29 = .ok (.ireturn, 1) := by decide +kernel
theorem dX6_possibles_0 : decode cX6_possibles 0 = .ok (.iconst 0, 1) := by decide +kernel
theorem dX6_possibles_1 : decode cX6_possibles 1 = .ok (.istore_n 1, 1) := by decide +kernel
theorem dX6_possibles_2 : decode cX6_possibles 2 = .ok (.aload_n 0, 1) := by decide +kernel
theorem dX6_possibles_3 : decode cX6_possibles 3 = .ok (.iconst (-1), 1) := by decide +kernel
theorem dX6_possibles_4 : decode cX6_possibles 4 = .ok (.invokevirtual 150, 3) := by decide +kernel
theorem dX6_possibles_7 : decode cX6_possibles 7 = .ok (.istore_n 2, 1) := by decide +kernel
theorem dX6_possibles_8 : decode cX6_possibles 8 = .ok (.iload_n 2, 1) := by decide +kernel
theorem dX6_possibles_9 : decode cX6_possibles 9 = .ok (.iconst (-1), 1) := by decide +kernel
theorem dX6_possibles_10 : decode cX6_possibles 10 = .ok (.if_icmp .eq 15, 3) := by decide +kernel
theorem dX6_possibles_13 : decode cX6_possibles 13 = .ok (.iinc 1 1, 3) := by decide +kernel
theorem dX6_possibles_16 : decode cX6_possibles 16 = .ok (.aload_n 0, 1) := by decide +kernel
theorem dX6_possibles_17 : decode cX6_possibles 17 = .ok (.iload_n 2, 1) := by decide +kernel
theorem dX6_possibles_18 : decode cX6_possibles 18 = .ok (.invokevirtual 150, 3) := by decide +kernel
theorem dX6_possibles_21 : decode cX6_possibles 21 = .ok (.istore_n 2, 1) := by decide +kernel
theorem dX6_possibles_22 : decode cX6_possibles 22 = .ok (.goto (-14), 3) := by decide +kernel
theorem dX6_possibles_25 : decode cX6_possibles 25 = .ok (.iload_n 1, 1) := by decide +kernel
theorem dX6_possibles_26 : decode cX6_possibles 26 = .ok (.ireturn, 1) := by decide +kernel
theorem dX6_possible_0 : decode cX6_possible 0 = .ok (.aload_n 0, 1) := by decide +kernel
theorem dX6_possible_1 : decode cX6_possible 1 = .ok (.iconst 0, 1) := by decide +kernel
theorem dX6_possible_2 : decode cX6_possible 2 = .ok (.putfield 29, 3) := by decide +kernel
theorem dX6_possible_5 : decode cX6_possible 5 = .ok (.aload_n 0, 1) := by decide +kernel
theorem dX6_possible_6 : decode cX6_possible 6 = .ok (.invokevirtual 189, 3) := by decide +kernel
theorem dX6_possible_9 : decode cX6_possible 9 = .ok (.ireturn, 1) := by decide +kernel
theorem dX6_option_0 : decode cX6_option 0 = .ok (.aload_n 0, 1) := by decide +kernel
theorem dX6_option_1 : decode cX6_option 1 = .ok (.iload_n 1, 1) := by decide +kernel
theorem dX6_option_2 : decode cX6_option 2 = .ok (.iconst 0, 1) := by decide +kernel
theorem dX6_option_3 : decode cX6_option 3 = .ok (.aload_n 0, 1) := by decide +kernel
theorem dX6_option_4 : decode cX6_option 4 = .ok (.invokevirtual 189, 3) := by decide +kernel
theorem dX6_option_7 : decode cX6_option 7 = .ok (.iconst 1, 1) := by decide +kernel
theorem dX6_option_8 : decode cX6_option 8 = .ok (.isub, 1) := by decide +kernel
theorem dX6_option_9 : decode cX6_option 9 = .ok (.invokestatic 47, 3) := by decide +kernel
theorem dX6_option_12 : decode cX6_option 12 = .ok (.ifCond .eq 7, 3) := by decide +kernel
theorem dX6_option_15 : decode cX6_option 15 = .ok (.iconst 0, 1) := by decide +kernel
theorem dX6_option_16 : decode cX6_option 16 = .ok (.goto 4, 3) := by decide +kernel
theorem dX6_option_19 : decode cX6_option 19 = .ok (.iconst 1, 1) := by decide +kernel
theorem dX6_option_20 : decode cX6_option 20 = .ok (.invokevirtual 36, 3) := by decide +kernel
theorem dX6_option_23 : decode cX6_option 23 = .ok (.ifCond .eq 5, 3) := by decide +kernel
theorem dX6_option_26 : decode cX6_option 26 = .ok (.iconst 0, 1) := by decide +kernel
theorem dX6_option_27 : decode cX6_option 27 = .ok (.ireturn, 1) := by decide +kernel
theorem dX6_option_28 : decode cX6_option 28 = .ok (.aload_n 0, 1) := by decide +kernel
theorem dX6_option_29 : decode cX6_option 29 = .ok (.iconst (-1), 1) := by decide +kernel
theorem dX6_option_30 : decode cX6_option 30 = .ok (.invokevirtual 150, 3) := by decide +kernel
theorem dX6_option_33 : decode cX6_option 33 = .ok (.istore_n 2, 1) := by decide +kernel
theorem dX6_option_34 : decode cX6_option 34 = .ok (.iload_n 1, 1) := by decide +kernel
theorem dX6_option_35 : decode cX6_option 35 = .ok (.istore_n 3, 1) := by decide +kernel
theorem dX6_option_36 : decode cX6_option 36 = .ok (.iload_n 3, 1) := by decide +kernel
theorem dX6_option_37 : decode cX6_option 37 = .ok (.ifCond .le 15, 3) := by decide +kernel
theorem dX6_option_40 : decode cX6_option 40 = .ok (.aload_n 0, 1) := by decide +kernel
theorem dX6_option_41 : decode cX6_option 41 = .ok (.iload_n 2, 1) := by decide +kernel
theorem dX6_option_42 : decode cX6_option 42 = .ok (.invokevirtual 150, 3) := by decide +kernel
theorem dX6_option_45 : decode cX6_option 45 = .ok (.istore_n 2, 1) := by decide +kernel
theorem dX6_option_46 : decode cX6_option 46 = .ok (.iinc 3 (-1), 3) := by decide +kernel
theorem dX6_option_49 : decode cX6_option 49 = .ok (.goto (-13), 3) := by decide +kernel
theorem dX6_option_52 : decode cX6_option 52 = .ok (.iload_n 2, 1) := by decide +kernel
theorem dX6_option_53 : decode cX6_option 53 = .ok (.invokestatic 193, 3) := by decide +kernel
theorem dX6_option_56 : decode cX6_option 56 = .ok (.ireturn, 1) := by decide +kernel
theorem dX6_bestScoreOf_0 : decode cX6_bestScoreOf 0 = .ok (.aload_n 0, 1) := by decide +kernel
theorem dX6_bestScoreOf_1 : decode cX6_bestScoreOf 1 = .ok (.iload_n 1, 1) := by decide +kernel
theorem dX6_bestScoreOf_2 : decode cX6_bestScoreOf 2 = .ok (.invokevirtual 174, 3) := by decide +kernel
theorem dX6_bestScoreOf_5 : decode cX6_bestScoreOf 5 = .ok (.aload_n 0, 1) := by decide +kernel
theorem dX6_bestScoreOf_6 : decode cX6_bestScoreOf 6 = .ok (.getfield 159, 3) := by decide +kernel
theorem dX6_bestScoreOf_9 : decode cX6_bestScoreOf 9 = .ok (.ifCond .ne 7, 3) := by decide +kernel
theorem dX6_bestScoreOf_12 : decode cX6_bestScoreOf 12 = .ok (.iconst (-1), 1) := by decide +kernel
theorem dX6_bestScoreOf_13 : decode cX6_bestScoreOf 13 = .ok (.goto 7, 3) := by decide +kernel
theorem dX6_bestScoreOf_16 : decode cX6_bestScoreOf 16 = .ok (.aload_n 0, 1) := by decide +kernel
theorem dX6_bestScoreOf_17 : decode cX6_bestScoreOf 17 = .ok (.getfield 162, 3) := by decide +kernel
theorem dX6_bestScoreOf_20 : decode cX6_bestScoreOf 20 = .ok (.ireturn, 1) := by decide +kernel
theorem dX6_bestScore_0 : decode cX6_bestScore 0 = .ok (.aload_n 0, 1) := by decide +kernel
theorem dX6_bestScore_1 : decode cX6_bestScore 1 = .ok (.iload_n 1, 1) := by decide +kernel
theorem dX6_bestScore_2 : decode cX6_bestScore 2 = .ok (.iconst 1, 1) := by decide +kernel
theorem dX6_bestScore_3 : decode cX6_bestScore 3 = .ok (.iconst 3, 1) := by decide +kernel
theorem dX6_bestScore_4 : decode cX6_bestScore 4 = .ok (.invokestatic 47, 3) := by decide +kernel
theorem dX6_bestScore_7 : decode cX6_bestScore 7 = .ok (.ifCond .eq 7, 3) := by decide +kernel
theorem dX6_bestScore_10 : decode cX6_bestScore 10 = .ok (.iconst 0, 1) := by decide +kernel
theorem dX6_bestScore_11 : decode cX6_bestScore 11 = .ok (.goto 4, 3) := by decide +kernel
theorem dX6_bestScore_14 : decode cX6_bestScore 14 = .ok (.iconst 1, 1) := by decide +kernel
theorem dX6_bestScore_15 : decode cX6_bestScore 15 = .ok (.invokevirtual 36, 3) := by decide +kernel
theorem dX6_bestScore_18 : decode cX6_bestScore 18 = .ok (.ifCond .eq 7, 3) := by decide +kernel
theorem dX6_bestScore_21 : decode cX6_bestScore 21 = .ok (.iconst 0, 1) := by decide +kernel
theorem dX6_bestScore_22 : decode cX6_bestScore 22 = .ok (.goto 8, 3) := by decide +kernel
theorem dX6_bestScore_25 : decode cX6_bestScore 25 = .ok (.aload_n 0, 1) := by decide +kernel
theorem dX6_bestScore_26 : decode cX6_bestScore 26 = .ok (.iload_n 1, 1) := by decide +kernel
theorem dX6_bestScore_27 : decode cX6_bestScore 27 = .ok (.invokevirtual 196, 3) := by decide +kernel
theorem dX6_bestScore_30 : decode cX6_bestScore 30 = .ok (.ireturn, 1) := by decide +kernel
theorem dX6_bestCodeOf_0 : decode cX6_bestCodeOf 0 = .ok (.aload_n 0, 1) := by decide +kernel
theorem dX6_bestCodeOf_1 : decode cX6_bestCodeOf 1 = .ok (.iload_n 1, 1) := by decide +kernel
theorem dX6_bestCodeOf_2 : decode cX6_bestCodeOf 2 = .ok (.invokevirtual 174, 3) := by decide +kernel
theorem dX6_bestCodeOf_5 : decode cX6_bestCodeOf 5 = .ok (.iload_n 2, 1) := by decide +kernel
theorem dX6_bestCodeOf_6 : decode cX6_bestCodeOf 6 = .ok (.aload_n 0, 1) := by decide +kernel
theorem dX6_bestCodeOf_7 : decode cX6_bestCodeOf 7 = .ok (.getfield 159, 3) := by decide +kernel
theorem dX6_bestCodeOf_10 : decode cX6_bestCodeOf 10 = .ok (.if_icmp .ge 15, 3) := by decide +kernel
theorem dX6_bestCodeOf_13 : decode cX6_bestCodeOf 13 = .ok (.aload_n 0, 1) := by decide +kernel
theorem dX6_bestCodeOf_14 : decode cX6_bestCodeOf 14 = .ok (.getfield 22, 3) := by decide +kernel
theorem dX6_bestCodeOf_17 : decode cX6_bestCodeOf 17 = .ok (.iload_n 2, 1) := by decide +kernel
theorem dX6_bestCodeOf_18 : decode cX6_bestCodeOf 18 = .ok (.iaload, 1) := by decide +kernel
theorem dX6_bestCodeOf_19 : decode cX6_bestCodeOf 19 = .ok (.invokestatic 193, 3) := by decide +kernel
theorem dX6_bestCodeOf_22 : decode cX6_bestCodeOf 22 = .ok (.goto 4, 3) := by decide +kernel
theorem dX6_bestCodeOf_25 : decode cX6_bestCodeOf 25 = .ok (.iconst (-1), 1) := by decide +kernel
theorem dX6_bestCodeOf_26 : decode cX6_bestCodeOf 26 = .ok (.ireturn, 1) := by decide +kernel
theorem dX6_bestPlacement_0 : decode cX6_bestPlacement 0 = .ok (.aload_n 0, 1) := by decide +kernel
theorem dX6_bestPlacement_1 : decode cX6_bestPlacement 1 = .ok (.iload_n 1, 1) := by decide +kernel
theorem dX6_bestPlacement_2 : decode cX6_bestPlacement 2 = .ok (.iconst 1, 1) := by decide +kernel
theorem dX6_bestPlacement_3 : decode cX6_bestPlacement 3 = .ok (.iconst 3, 1) := by decide +kernel
theorem dX6_bestPlacement_4 : decode cX6_bestPlacement 4 = .ok (.invokestatic 47, 3) := by decide +kernel
theorem dX6_bestPlacement_7 : decode cX6_bestPlacement 7 = .ok (.ifCond .eq 18, 3) := by decide +kernel
theorem dX6_bestPlacement_10 : decode cX6_bestPlacement 10 = .ok (.iload_n 2, 1) := by decide +kernel
theorem dX6_bestPlacement_11 : decode cX6_bestPlacement 11 = .ok (.iconst 0, 1) := by decide +kernel
theorem dX6_bestPlacement_12 : decode cX6_bestPlacement 12 = .ok (.iload_n 1, 1) := by decide +kernel
theorem dX6_bestPlacement_13 : decode cX6_bestPlacement 13 = .ok (.iconst 1, 1) := by decide +kernel
theorem dX6_bestPlacement_14 : decode cX6_bestPlacement 14 = .ok (.isub, 1) := by decide +kernel
theorem dX6_bestPlacement_15 : decode cX6_bestPlacement 15 = .ok (.invokestatic 47, 3) := by decide +kernel
theorem dX6_bestPlacement_18 : decode cX6_bestPlacement 18 = .ok (.ifCond .eq 7, 3) := by decide +kernel
theorem dX6_bestPlacement_21 : decode cX6_bestPlacement 21 = .ok (.iconst 0, 1) := by decide +kernel
theorem dX6_bestPlacement_22 : decode cX6_bestPlacement 22 = .ok (.goto 4, 3) := by decide +kernel
theorem dX6_bestPlacement_25 : decode cX6_bestPlacement 25 = .ok (.iconst 1, 1) := by decide +kernel
theorem dX6_bestPlacement_26 : decode cX6_bestPlacement 26 = .ok (.invokevirtual 36, 3) := by decide +kernel
theorem dX6_bestPlacement_29 : decode cX6_bestPlacement 29 = .ok (.ifCond .eq 7, 3) := by decide +kernel
theorem dX6_bestPlacement_32 : decode cX6_bestPlacement 32 = .ok (.iconst 0, 1) := by decide +kernel
theorem dX6_bestPlacement_33 : decode cX6_bestPlacement 33 = .ok (.goto 9, 3) := by decide +kernel
theorem dX6_bestPlacement_36 : decode cX6_bestPlacement 36 = .ok (.aload_n 0, 1) := by decide +kernel
theorem dX6_bestPlacement_37 : decode cX6_bestPlacement 37 = .ok (.iload_n 1, 1) := by decide +kernel
theorem dX6_bestPlacement_38 : decode cX6_bestPlacement 38 = .ok (.iload_n 2, 1) := by decide +kernel
theorem dX6_bestPlacement_39 : decode cX6_bestPlacement 39 = .ok (.invokevirtual 199, 3) := by decide +kernel
theorem dX6_bestPlacement_42 : decode cX6_bestPlacement 42 = .ok (.ireturn, 1) := by decide +kernel
theorem dX6_moves_0 : decode cX6_moves 0 = .ok (.aload_n 0, 1) := by decide +kernel
theorem dX6_moves_1 : decode cX6_moves 1 = .ok (.iconst 0, 1) := by decide +kernel
theorem dX6_moves_2 : decode cX6_moves 2 = .ok (.putfield 29, 3) := by decide +kernel
theorem dX6_moves_5 : decode cX6_moves 5 = .ok (.aload_n 0, 1) := by decide +kernel
theorem dX6_moves_6 : decode cX6_moves 6 = .ok (.getfield 7, 3) := by decide +kernel
theorem dX6_moves_9 : decode cX6_moves 9 = .ok (.bipush 85, 2) := by decide +kernel
theorem dX6_moves_11 : decode cX6_moves 11 = .ok (.iaload, 1) := by decide +kernel
theorem dX6_moves_12 : decode cX6_moves 12 = .ok (.ireturn, 1) := by decide +kernel
theorem dX6_move_0 : decode cX6_move 0 = .ok (.aload_n 0, 1) := by decide +kernel
theorem dX6_move_1 : decode cX6_move 1 = .ok (.iload_n 1, 1) := by decide +kernel
theorem dX6_move_2 : decode cX6_move 2 = .ok (.iconst 0, 1) := by decide +kernel
theorem dX6_move_3 : decode cX6_move 3 = .ok (.aload_n 0, 1) := by decide +kernel
theorem dX6_move_4 : decode cX6_move 4 = .ok (.getfield 7, 3) := by decide +kernel
theorem dX6_move_7 : decode cX6_move 7 = .ok (.bipush 85, 2) := by decide +kernel
theorem dX6_move_9 : decode cX6_move 9 = .ok (.iaload, 1) := by decide +kernel
theorem dX6_move_10 : decode cX6_move 10 = .ok (.iconst 1, 1) := by decide +kernel
theorem dX6_move_11 : decode cX6_move 11 = .ok (.isub, 1) := by decide +kernel
theorem dX6_move_12 : decode cX6_move 12 = .ok (.invokestatic 47, 3) := by decide +kernel
theorem dX6_move_15 : decode cX6_move 15 = .ok (.ifCond .ne 7, 3) := by decide +kernel
theorem dX6_move_18 : decode cX6_move 18 = .ok (.iconst 1, 1) := by decide +kernel
theorem dX6_move_19 : decode cX6_move 19 = .ok (.goto 17, 3) := by decide +kernel
theorem dX6_move_22 : decode cX6_move 22 = .ok (.iload_n 2, 1) := by decide +kernel
theorem dX6_move_23 : decode cX6_move 23 = .ok (.iconst 0, 1) := by decide +kernel
theorem dX6_move_24 : decode cX6_move 24 = .ok (.iconst 3, 1) := by decide +kernel
theorem dX6_move_25 : decode cX6_move 25 = .ok (.invokestatic 47, 3) := by decide +kernel
theorem dX6_move_28 : decode cX6_move 28 = .ok (.ifCond .eq 7, 3) := by decide +kernel
theorem dX6_move_31 : decode cX6_move 31 = .ok (.iconst 0, 1) := by decide +kernel
theorem dX6_move_32 : decode cX6_move 32 = .ok (.goto 4, 3) := by decide +kernel
theorem dX6_move_35 : decode cX6_move 35 = .ok (.iconst 2, 1) := by decide +kernel
theorem dX6_move_36 : decode cX6_move 36 = .ok (.invokevirtual 36, 3) := by decide +kernel
theorem dX6_move_39 : decode cX6_move 39 = .ok (.ifCond .eq 7, 3) := by decide +kernel
theorem dX6_move_42 : decode cX6_move 42 = .ok (.iconst 0, 1) := by decide +kernel
theorem dX6_move_43 : decode cX6_move 43 = .ok (.goto 16, 3) := by decide +kernel
theorem dX6_move_46 : decode cX6_move 46 = .ok (.aload_n 0, 1) := by decide +kernel
theorem dX6_move_47 : decode cX6_move 47 = .ok (.getfield 7, 3) := by decide +kernel
theorem dX6_move_50 : decode cX6_move 50 = .ok (.bipush 86, 2) := by decide +kernel
theorem dX6_move_52 : decode cX6_move 52 = .ok (.iconst 4, 1) := by decide +kernel
theorem dX6_move_53 : decode cX6_move 53 = .ok (.iload_n 1, 1) := by decide +kernel
theorem dX6_move_54 : decode cX6_move 54 = .ok (.imul, 1) := by decide +kernel
theorem dX6_move_55 : decode cX6_move 55 = .ok (.iadd, 1) := by decide +kernel
theorem dX6_move_56 : decode cX6_move 56 = .ok (.iload_n 2, 1) := by decide +kernel
theorem dX6_move_57 : decode cX6_move 57 = .ok (.iadd, 1) := by decide +kernel
theorem dX6_move_58 : decode cX6_move 58 = .ok (.iaload, 1) := by decide +kernel
theorem dX6_move_59 : decode cX6_move 59 = .ok (.ireturn, 1) := by decide +kernel
theorem dX6_mix_0 : decode cX6_mix 0 = .ok (.aload_n 0, 1) := by decide +kernel
theorem dX6_mix_1 : decode cX6_mix 1 = .ok (.ldc2_w 202, 3) := by decide +kernel
theorem dX6_mix_4 : decode cX6_mix 4 = .ok (.aload_n 0, 1) := by decide +kernel
theorem dX6_mix_5 : decode cX6_mix 5 = .ok (.getfield 204, 3) := by decide +kernel
theorem dX6_mix_8 : decode cX6_mix 8 = .ok (.lmul, 1) := by decide +kernel
theorem dX6_mix_9 : decode cX6_mix 9 = .ok (.iload_n 1, 1) := by decide +kernel
theorem dX6_mix_10 : decode cX6_mix 10 = .ok (.i2l, 1) := by decide +kernel
theorem dX6_mix_11 : decode cX6_mix 11 = .ok (.ladd, 1) := by decide +kernel
theorem dX6_mix_12 : decode cX6_mix 12 = .ok (.putfield 204, 3) := by decide +kernel
theorem dX6_mix_15 : decode cX6_mix 15 = .ok (.return_, 1) := by decide +kernel
theorem dX6_mixPlayer_0 : decode cX6_mixPlayer 0 = .ok (.iconst 0, 1) := by decide +kernel
theorem dX6_mixPlayer_1 : decode cX6_mixPlayer 1 = .ok (.istore_n 2, 1) := by decide +kernel
theorem dX6_mixPlayer_2 : decode cX6_mixPlayer 2 = .ok (.iload_n 2, 1) := by decide +kernel
theorem dX6_mixPlayer_3 : decode cX6_mixPlayer 3 = .ok (.bipush 11, 2) := by decide +kernel
theorem dX6_mixPlayer_5 : decode cX6_mixPlayer 5 = .ok (.if_icmp .ge 19, 3) := by decide +kernel
theorem dX6_mixPlayer_8 : decode cX6_mixPlayer 8 = .ok (.aload_n 0, 1) := by decide +kernel
theorem dX6_mixPlayer_9 : decode cX6_mixPlayer 9 = .ok (.aload_n 0, 1) := by decide +kernel
theorem dX6_mixPlayer_10 : decode cX6_mixPlayer 10 = .ok (.iload_n 1, 1) := by decide +kernel
theorem dX6_mixPlayer_11 : decode cX6_mixPlayer 11 = .ok (.iload_n 2, 1) := by decide +kernel
theorem dX6_mixPlayer_12 : decode cX6_mixPlayer 12 = .ok (.invokevirtual 44, 3) := by decide +kernel
theorem dX6_mixPlayer_15 : decode cX6_mixPlayer 15 = .ok (.invokevirtual 208, 3) := by decide +kernel
theorem dX6_mixPlayer_18 : decode cX6_mixPlayer 18 = .ok (.iinc 2 1, 3) := by decide +kernel
theorem dX6_mixPlayer_21 : decode cX6_mixPlayer 21 = .ok (.goto (-19), 3) := by decide +kernel
theorem dX6_mixPlayer_24 : decode cX6_mixPlayer 24 = .ok (.aload_n 0, 1) := by decide +kernel
theorem dX6_mixPlayer_25 : decode cX6_mixPlayer 25 = .ok (.aload_n 0, 1) := by decide +kernel
theorem dX6_mixPlayer_26 : decode cX6_mixPlayer 26 = .ok (.iload_n 1, 1) := by decide +kernel
theorem dX6_mixPlayer_27 : decode cX6_mixPlayer 27 = .ok (.invokevirtual 72, 3) := by decide +kernel
theorem dX6_mixPlayer_30 : decode cX6_mixPlayer 30 = .ok (.invokevirtual 208, 3) := by decide +kernel
theorem dX6_mixPlayer_33 : decode cX6_mixPlayer 33 = .ok (.aload_n 0, 1) := by decide +kernel
theorem dX6_mixPlayer_34 : decode cX6_mixPlayer 34 = .ok (.aload_n 0, 1) := by decide +kernel
theorem dX6_mixPlayer_35 : decode cX6_mixPlayer 35 = .ok (.iload_n 1, 1) := by decide +kernel
theorem dX6_mixPlayer_36 : decode cX6_mixPlayer 36 = .ok (.invokevirtual 84, 3) := by decide +kernel
theorem dX6_mixPlayer_39 : decode cX6_mixPlayer 39 = .ok (.invokevirtual 208, 3) := by decide +kernel
theorem dX6_mixPlayer_42 : decode cX6_mixPlayer 42 = .ok (.iconst 0, 1) := by decide +kernel
theorem dX6_mixPlayer_43 : decode cX6_mixPlayer 43 = .ok (.istore_n 2, 1) := by decide +kernel
theorem dX6_mixPlayer_44 : decode cX6_mixPlayer 44 = .ok (.iload_n 2, 1) := by decide +kernel
theorem dX6_mixPlayer_45 : decode cX6_mixPlayer 45 = .ok (.bipush 6, 2) := by decide +kernel
theorem dX6_mixPlayer_47 : decode cX6_mixPlayer 47 = .ok (.if_icmp .ge 19, 3) := by decide +kernel
theorem dX6_mixPlayer_50 : decode cX6_mixPlayer 50 = .ok (.aload_n 0, 1) := by decide +kernel
theorem dX6_mixPlayer_51 : decode cX6_mixPlayer 51 = .ok (.aload_n 0, 1) := by decide +kernel
theorem dX6_mixPlayer_52 : decode cX6_mixPlayer 52 = .ok (.iload_n 1, 1) := by decide +kernel
theorem dX6_mixPlayer_53 : decode cX6_mixPlayer 53 = .ok (.iload_n 2, 1) := by decide +kernel
theorem dX6_mixPlayer_54 : decode cX6_mixPlayer 54 = .ok (.invokevirtual 183, 3) := by decide +kernel
theorem dX6_mixPlayer_57 : decode cX6_mixPlayer 57 = .ok (.invokevirtual 208, 3) := by decide +kernel
theorem dX6_mixPlayer_60 : decode cX6_mixPlayer 60 = .ok (.iinc 2 1, 3) := by decide +kernel
theorem dX6_mixPlayer_63 : decode cX6_mixPlayer 63 = .ok (.goto (-19), 3) := by decide +kernel
theorem dX6_mixPlayer_66 : decode cX6_mixPlayer 66 = .ok (.aload_n 0, 1) := by decide +kernel
theorem dX6_mixPlayer_67 : decode cX6_mixPlayer 67 = .ok (.aload_n 0, 1) := by decide +kernel
theorem dX6_mixPlayer_68 : decode cX6_mixPlayer 68 = .ok (.iload_n 1, 1) := by decide +kernel
theorem dX6_mixPlayer_69 : decode cX6_mixPlayer 69 = .ok (.invokevirtual 156, 3) := by decide +kernel
theorem dX6_mixPlayer_72 : decode cX6_mixPlayer 72 = .ok (.invokevirtual 208, 3) := by decide +kernel
theorem dX6_mixPlayer_75 : decode cX6_mixPlayer 75 = .ok (.aload_n 0, 1) := by decide +kernel
theorem dX6_mixPlayer_76 : decode cX6_mixPlayer 76 = .ok (.aload_n 0, 1) := by decide +kernel
theorem dX6_mixPlayer_77 : decode cX6_mixPlayer 77 = .ok (.iload_n 1, 1) := by decide +kernel
theorem dX6_mixPlayer_78 : decode cX6_mixPlayer 78 = .ok (.invokevirtual 186, 3) := by decide +kernel
theorem dX6_mixPlayer_81 : decode cX6_mixPlayer 81 = .ok (.invokevirtual 208, 3) := by decide +kernel
theorem dX6_mixPlayer_84 : decode cX6_mixPlayer 84 = .ok (.return_, 1) := by decide +kernel
theorem dX6_digest_0 : decode cX6_digest 0 = .ok (.aload_n 0, 1) := by decide +kernel
theorem dX6_digest_1 : decode cX6_digest 1 = .ok (.iconst 0, 1) := by decide +kernel
theorem dX6_digest_2 : decode cX6_digest 2 = .ok (.putfield 29, 3) := by decide +kernel
theorem dX6_digest_5 : decode cX6_digest 5 = .ok (.aload_n 0, 1) := by decide +kernel
theorem dX6_digest_6 : decode cX6_digest 6 = .ok (.ldc2_w 211, 3) := by decide +kernel
theorem dX6_digest_9 : decode cX6_digest 9 = .ok (.putfield 204, 3) := by decide +kernel
theorem dX6_digest_12 : decode cX6_digest 12 = .ok (.aload_n 0, 1) := by decide +kernel
theorem dX6_digest_13 : decode cX6_digest 13 = .ok (.aload_n 0, 1) := by decide +kernel
theorem dX6_digest_14 : decode cX6_digest 14 = .ok (.getfield 33, 3) := by decide +kernel
theorem dX6_digest_17 : decode cX6_digest 17 = .ok (.invokevirtual 208, 3) := by decide +kernel
theorem dX6_digest_20 : decode cX6_digest 20 = .ok (.aload_n 0, 1) := by decide +kernel
theorem dX6_digest_21 : decode cX6_digest 21 = .ok (.aload_n 0, 1) := by decide +kernel
theorem dX6_digest_22 : decode cX6_digest 22 = .ok (.getfield 7, 3) := by decide +kernel
theorem dX6_digest_25 : decode cX6_digest 25 = .ok (.iconst 0, 1) := by decide +kernel
theorem dX6_digest_26 : decode cX6_digest 26 = .ok (.iaload, 1) := by decide +kernel
theorem dX6_digest_27 : decode cX6_digest 27 = .ok (.invokevirtual 208, 3) := by decide +kernel
theorem dX6_digest_30 : decode cX6_digest 30 = .ok (.aload_n 0, 1) := by decide +kernel
theorem dX6_digest_31 : decode cX6_digest 31 = .ok (.aload_n 0, 1) := by decide +kernel
theorem dX6_digest_32 : decode cX6_digest 32 = .ok (.getfield 7, 3) := by decide +kernel
theorem dX6_digest_35 : decode cX6_digest 35 = .ok (.iconst 2, 1) := by decide +kernel
theorem dX6_digest_36 : decode cX6_digest 36 = .ok (.iaload, 1) := by decide +kernel
theorem dX6_digest_37 : decode cX6_digest 37 = .ok (.invokevirtual 208, 3) := by decide +kernel
theorem dX6_digest_40 : decode cX6_digest 40 = .ok (.aload_n 0, 1) := by decide +kernel
theorem dX6_digest_41 : decode cX6_digest 41 = .ok (.aload_n 0, 1) := by decide +kernel
theorem dX6_digest_42 : decode cX6_digest 42 = .ok (.getfield 7, 3) := by decide +kernel
theorem dX6_digest_45 : decode cX6_digest 45 = .ok (.iconst 1, 1) := by decide +kernel
theorem dX6_digest_46 : decode cX6_digest 46 = .ok (.iaload, 1) := by decide +kernel
theorem dX6_digest_47 : decode cX6_digest 47 = .ok (.invokevirtual 208, 3) := by decide +kernel
theorem dX6_digest_50 : decode cX6_digest 50 = .ok (.aload_n 0, 1) := by decide +kernel
theorem dX6_digest_51 : decode cX6_digest 51 = .ok (.aload_n 0, 1) := by decide +kernel
theorem dX6_digest_52 : decode cX6_digest 52 = .ok (.getfield 7, 3) := by decide +kernel
theorem dX6_digest_55 : decode cX6_digest 55 = .ok (.iconst 3, 1) := by decide +kernel
theorem dX6_digest_56 : decode cX6_digest 56 = .ok (.iaload, 1) := by decide +kernel
theorem dX6_digest_57 : decode cX6_digest 57 = .ok (.invokevirtual 208, 3) := by decide +kernel
theorem dX6_digest_60 : decode cX6_digest 60 = .ok (.aload_n 0, 1) := by decide +kernel
theorem dX6_digest_61 : decode cX6_digest 61 = .ok (.aload_n 0, 1) := by decide +kernel
theorem dX6_digest_62 : decode cX6_digest 62 = .ok (.getfield 7, 3) := by decide +kernel
theorem dX6_digest_65 : decode cX6_digest 65 = .ok (.iconst 4, 1) := by decide +kernel
theorem dX6_digest_66 : decode cX6_digest 66 = .ok (.iaload, 1) := by decide +kernel

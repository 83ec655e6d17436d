theorem dX5_mixHistory_34 : decode cX5_mixHistory 34 = .ok (.iconst 0, 1) := by decide +kernel
theorem dX5_mixHistory_35 : decode cX5_mixHistory 35 = .ok (.istore 6, 2) := by decide +kernel
theorem dX5_mixHistory_37 : decode cX5_mixHistory 37 = .ok (.iload 6, 2) := by decide +kernel
theorem dX5_mixHistory_39 : decode cX5_mixHistory 39 = .ok (.iconst 4, 1) := by decide +kernel
theorem dX5_mixHistory_40 : decode cX5_mixHistory 40 = .ok (.if_icmp .ge 29, 3) := by decide +kernel
theorem dX5_mixHistory_43 : decode cX5_mixHistory 43 = .ok (.lload_n 3, 1) := by decide +kernel
theorem dX5_mixHistory_44 : decode cX5_mixHistory 44 = .ok (.aload_n 0, 1) := by decide +kernel
theorem dX5_mixHistory_45 : decode cX5_mixHistory 45 = .ok (.getfield 10, 3) := by decide +kernel
theorem dX5_mixHistory_48 : decode cX5_mixHistory 48 = .ok (.getfield 135, 3) := by decide +kernel
theorem dX5_mixHistory_51 : decode cX5_mixHistory 51 = .ok (.iload 5, 2) := by decide +kernel
theorem dX5_mixHistory_53 : decode cX5_mixHistory 53 = .ok (.iload 6, 2) := by decide +kernel
theorem dX5_mixHistory_55 : decode cX5_mixHistory 55 = .ok (.invokevirtual 144, 3) := by decide +kernel
theorem dX5_mixHistory_58 : decode cX5_mixHistory 58 = .ok (.i2l, 1) := by decide +kernel
theorem dX5_mixHistory_59 : decode cX5_mixHistory 59 = .ok (.invokestatic 152, 3) := by decide +kernel
theorem dX5_mixHistory_62 : decode cX5_mixHistory 62 = .ok (.lstore_n 3, 1) := by decide +kernel
theorem dX5_mixHistory_63 : decode cX5_mixHistory 63 = .ok (.iinc 6 1, 3) := by decide +kernel
theorem dX5_mixHistory_66 : decode cX5_mixHistory 66 = .ok (.goto (-29), 3) := by decide +kernel
theorem dX5_mixHistory_69 : decode cX5_mixHistory 69 = .ok (.iinc 5 1, 3) := by decide +kernel
theorem dX5_mixHistory_72 : decode cX5_mixHistory 72 = .ok (.goto (-53), 3) := by decide +kernel
theorem dX5_mixHistory_75 : decode cX5_mixHistory 75 = .ok (.lload_n 3, 1) := by decide +kernel
theorem dX5_mixHistory_76 : decode cX5_mixHistory 76 = .ok (.lreturn, 1) := by decide +kernel
theorem dX5_mix_0 : decode cX5_mix 0 = .ok (.ldc2_w 170, 3) := by decide +kernel
theorem dX5_mix_3 : decode cX5_mix 3 = .ok (.lload_n 0, 1) := by decide +kernel
theorem dX5_mix_4 : decode cX5_mix 4 = .ok (.lmul, 1) := by decide +kernel
theorem dX5_mix_5 : decode cX5_mix 5 = .ok (.lload_n 2, 1) := by decide +kernel
theorem dX5_mix_6 : decode cX5_mix 6 = .ok (.ladd, 1) := by decide +kernel
theorem dX5_mix_7 : decode cX5_mix 7 = .ok (.lreturn, 1) := by decide +kernel
theorem dX5_requirePlayer_0 : decode cX5_requirePlayer 0 = .ok (.iload_n 1, 1) := by decide +kernel
theorem dX5_requirePlayer_1 : decode cX5_requirePlayer 1 = .ok (.ifCond .lt 18, 3) := by decide +kernel
theorem dX5_requirePlayer_4 : decode cX5_requirePlayer 4 = .ok (.iload_n 1, 1) := by decide +kernel
theorem dX5_requirePlayer_5 : decode cX5_requirePlayer 5 = .ok (.aload_n 0, 1) := by decide +kernel
theorem dX5_requirePlayer_6 : decode cX5_requirePlayer 6 = .ok (.getfield 10, 3) := by decide +kernel
theorem dX5_requirePlayer_9 : decode cX5_requirePlayer 9 = .ok (.getfield 85, 3) := by decide +kernel
theorem dX5_requirePlayer_12 : decode cX5_requirePlayer 12 = .ok (.if_icmp .ge 7, 3) := by decide +kernel
theorem dX5_requirePlayer_15 : decode cX5_requirePlayer 15 = .ok (.iconst 1, 1) := by decide +kernel
theorem dX5_requirePlayer_16 : decode cX5_requirePlayer 16 = .ok (.goto 4, 3) := by decide +kernel
theorem dX5_requirePlayer_19 : decode cX5_requirePlayer 19 = .ok (.iconst 0, 1) := by decide +kernel
theorem dX5_requirePlayer_20 : decode cX5_requirePlayer 20 = .ok (.invokestatic 50, 3) := by decide +kernel
theorem dX5_requirePlayer_23 : decode cX5_requirePlayer 23 = .ok (.return_, 1) := by decide +kernel
theorem dX5_requireIndex_0 : decode cX5_requireIndex 0 = .ok (.iload_n 0, 1) := by decide +kernel
theorem dX5_requireIndex_1 : decode cX5_requireIndex 1 = .ok (.ifCond .ne 13, 3) := by decide +kernel
theorem dX5_requireIndex_4 : decode cX5_requireIndex 4 = .ok (.new 172, 3) := by decide +kernel
theorem dX5_requireIndex_7 : decode cX5_requireIndex 7 = .ok (.dup, 1) := by decide +kernel
theorem dX5_requireIndex_8 : decode cX5_requireIndex 8 = .ok (.ldc 174, 2) := by decide +kernel
theorem dX5_requireIndex_10 : decode cX5_requireIndex 10 = .ok (.invokespecial 176, 3) := by decide +kernel
theorem dX5_requireIndex_13 : decode cX5_requireIndex 13 = .ok (.athrow, 1) := by decide +kernel
theorem dX5_requireIndex_14 : decode cX5_requireIndex 14 = .ok (.return_, 1) := by decide +kernel
theorem dX5_requireArgument_0 : decode cX5_requireArgument 0 = .ok (.iload_n 0, 1) := by decide +kernel
theorem dX5_requireArgument_1 : decode cX5_requireArgument 1 = .ok (.ifCond .ne 13, 3) := by decide +kernel
theorem dX5_requireArgument_4 : decode cX5_requireArgument 4 = .ok (.new 179, 3) := by decide +kernel
theorem dX5_requireArgument_7 : decode cX5_requireArgument 7 = .ok (.dup, 1) := by decide +kernel
theorem dX5_requireArgument_8 : decode cX5_requireArgument 8 = .ok (.ldc 181, 2) := by decide +kernel
theorem dX5_requireArgument_10 : decode cX5_requireArgument 10 = .ok (.invokespecial 183, 3) := by decide +kernel
theorem dX5_requireArgument_13 : decode cX5_requireArgument 13 = .ok (.athrow, 1) := by decide +kernel
theorem dX5_requireArgument_14 : decode cX5_requireArgument 14 = .ok (.return_, 1) := by decide +kernel
theorem dX5_requireState_0 : decode cX5_requireState 0 = .ok (.iload_n 0, 1) := by decide +kernel
theorem dX5_requireState_1 : decode cX5_requireState 1 = .ok (.ifCond .ne 13, 3) := by decide +kernel
theorem dX5_requireState_4 : decode cX5_requireState 4 = .ok (.new 184, 3) := by decide +kernel
theorem dX5_requireState_7 : decode cX5_requireState 7 = .ok (.dup, 1) := by decide +kernel
theorem dX5_requireState_8 : decode cX5_requireState 8 = .ok (.ldc 186, 2) := by decide +kernel
theorem dX5_requireState_10 : decode cX5_requireState 10 = .ok (.invokespecial 188, 3) := by decide +kernel
theorem dX5_requireState_13 : decode cX5_requireState 13 = .ok (.athrow, 1) := by decide +kernel
theorem dX5_requireState_14 : decode cX5_requireState 14 = .ok (.return_, 1) := by decide +kernel
theorem dX6_init_0 : decode cX6_init 0 = .ok (.aload_n 0, 1) := by decide +kernel
theorem dX6_init_1 : decode cX6_init 1 = .ok (.invokespecial 1, 3) := by decide +kernel
theorem dX6_init_4 : decode cX6_init 4 = .ok (.aload_n 0, 1) := by decide +kernel
theorem dX6_init_5 : decode cX6_init 5 = .ok (.sipush 206, 3) := by decide +kernel
theorem dX6_init_8 : decode cX6_init 8 = .ok (.newarray .int, 2) := by decide +kernel
theorem dX6_init_10 : decode cX6_init 10 = .ok (.putfield 7, 3) := by decide +kernel
theorem dX6_init_13 : decode cX6_init 13 = .ok (.aload_n 0, 1) := by decide +kernel
theorem dX6_init_14 : decode cX6_init 14 = .ok (.sipush 824, 3) := by decide +kernel
theorem dX6_init_17 : decode cX6_init 17 = .ok (.newarray .int, 2) := by decide +kernel
theorem dX6_init_19 : decode cX6_init 19 = .ok (.putfield 13, 3) := by decide +kernel
theorem dX6_init_22 : decode cX6_init 22 = .ok (.aload_n 0, 1) := by decide +kernel
theorem dX6_init_23 : decode cX6_init 23 = .ok (.sipush 824, 3) := by decide +kernel
theorem dX6_init_26 : decode cX6_init 26 = .ok (.newarray .int, 2) := by decide +kernel
theorem dX6_init_28 : decode cX6_init 28 = .ok (.putfield 16, 3) := by decide +kernel
theorem dX6_init_31 : decode cX6_init 31 = .ok (.aload_n 0, 1) := by decide +kernel
theorem dX6_init_32 : decode cX6_init 32 = .ok (.iconst 4, 1) := by decide +kernel
theorem dX6_init_33 : decode cX6_init 33 = .ok (.newarray .int, 2) := by decide +kernel
theorem dX6_init_35 : decode cX6_init 35 = .ok (.putfield 19, 3) := by decide +kernel
theorem dX6_init_38 : decode cX6_init 38 = .ok (.aload_n 0, 1) := by decide +kernel
theorem dX6_init_39 : decode cX6_init 39 = .ok (.iconst 4, 1) := by decide +kernel
theorem dX6_init_40 : decode cX6_init 40 = .ok (.newarray .int, 2) := by decide +kernel
theorem dX6_init_42 : decode cX6_init 42 = .ok (.putfield 22, 3) := by decide +kernel
theorem dX6_init_45 : decode cX6_init 45 = .ok (.aload_n 0, 1) := by decide +kernel
theorem dX6_init_46 : decode cX6_init 46 = .ok (.iconst 2, 1) := by decide +kernel
theorem dX6_init_47 : decode cX6_init 47 = .ok (.bipush 6, 2) := by decide +kernel
theorem dX6_init_49 : decode cX6_init 49 = .ok (.invokevirtual 25, 3) := by decide +kernel
theorem dX6_init_52 : decode cX6_init 52 = .ok (.return_, 1) := by decide +kernel
theorem dX6_thrown_0 : decode cX6_thrown 0 = .ok (.aload_n 0, 1) := by decide +kernel
theorem dX6_thrown_1 : decode cX6_thrown 1 = .ok (.getfield 29, 3) := by decide +kernel
theorem dX6_thrown_4 : decode cX6_thrown 4 = .ok (.ireturn, 1) := by decide +kernel
theorem dX6_refused_0 : decode cX6_refused 0 = .ok (.aload_n 0, 1) := by decide +kernel
theorem dX6_refused_1 : decode cX6_refused 1 = .ok (.iload_n 1, 1) := by decide +kernel
theorem dX6_refused_2 : decode cX6_refused 2 = .ok (.putfield 29, 3) := by decide +kernel
theorem dX6_refused_5 : decode cX6_refused 5 = .ok (.iload_n 1, 1) := by decide +kernel
theorem dX6_refused_6 : decode cX6_refused 6 = .ok (.ifCond .le 7, 3) := by decide +kernel
theorem dX6_refused_9 : decode cX6_refused 9 = .ok (.iconst 1, 1) := by decide +kernel
theorem dX6_refused_10 : decode cX6_refused 10 = .ok (.goto 4, 3) := by decide +kernel
theorem dX6_refused_13 : decode cX6_refused 13 = .ok (.iconst 0, 1) := by decide +kernel
theorem dX6_refused_14 : decode cX6_refused 14 = .ok (.ireturn, 1) := by decide +kernel
theorem dX6_within_0 : decode cX6_within 0 = .ok (.iload_n 0, 1) := by decide +kernel
theorem dX6_within_1 : decode cX6_within 1 = .ok (.iload_n 1, 1) := by decide +kernel
theorem dX6_within_2 : decode cX6_within 2 = .ok (.if_icmp .lt 12, 3) := by decide +kernel
theorem dX6_within_5 : decode cX6_within 5 = .ok (.iload_n 0, 1) := by decide +kernel
theorem dX6_within_6 : decode cX6_within 6 = .ok (.iload_n 2, 1) := by decide +kernel
theorem dX6_within_7 : decode cX6_within 7 = .ok (.if_icmp .gt 7, 3) := by decide +kernel
theorem dX6_within_10 : decode cX6_within 10 = .ok (.iconst 1, 1) := by decide +kernel
theorem dX6_within_11 : decode cX6_within 11 = .ok (.goto 4, 3) := by decide +kernel
theorem dX6_within_14 : decode cX6_within 14 = .ok (.iconst 0, 1) := by decide +kernel
theorem dX6_within_15 : decode cX6_within 15 = .ok (.ireturn, 1) := by decide +kernel
theorem dX6_saves_0 : decode cX6_saves 0 = .ok (.aload_n 0, 1) := by decide +kernel
theorem dX6_saves_1 : decode cX6_saves 1 = .ok (.getfield 33, 3) := by decide +kernel
theorem dX6_saves_4 : decode cX6_saves 4 = .ok (.iconst 4, 1) := by decide +kernel
theorem dX6_saves_5 : decode cX6_saves 5 = .ok (.if_icmp .ne 44, 3) := by decide +kernel
theorem dX6_saves_8 : decode cX6_saves 8 = .ok (.iconst 0, 1) := by decide +kernel
theorem dX6_saves_9 : decode cX6_saves 9 = .ok (.istore_n 1, 1) := by decide +kernel
theorem dX6_saves_10 : decode cX6_saves 10 = .ok (.iload_n 1, 1) := by decide +kernel
theorem dX6_saves_11 : decode cX6_saves 11 = .ok (.sipush 618, 3) := by decide +kernel
theorem dX6_saves_14 : decode cX6_saves 14 = .ok (.if_icmp .ge 25, 3) := by decide +kernel
theorem dX6_saves_17 : decode cX6_saves 17 = .ok (.aload_n 0, 1) := by decide +kernel
theorem dX6_saves_18 : decode cX6_saves 18 = .ok (.getfield 13, 3) := by decide +kernel
theorem dX6_saves_21 : decode cX6_saves 21 = .ok (.iload_n 1, 1) := by decide +kernel
theorem dX6_saves_22 : decode cX6_saves 22 = .ok (.aload_n 0, 1) := by decide +kernel
theorem dX6_saves_23 : decode cX6_saves 23 = .ok (.getfield 13, 3) := by decide +kernel
theorem dX6_saves_26 : decode cX6_saves 26 = .ok (.iload_n 1, 1) := by decide +kernel
theorem dX6_saves_27 : decode cX6_saves 27 = .ok (.sipush 206, 3) := by decide +kernel
theorem dX6_saves_30 : decode cX6_saves 30 = .ok (.iadd, 1) := by decide +kernel
theorem dX6_saves_31 : decode cX6_saves 31 = .ok (.iaload, 1) := by decide +kernel
theorem dX6_saves_32 : decode cX6_saves 32 = .ok (.iastore, 1) := by decide +kernel
theorem dX6_saves_33 : decode cX6_saves 33 = .ok (.iinc 1 1, 3) := by decide +kernel
theorem dX6_saves_36 : decode cX6_saves 36 = .ok (.goto (-26), 3) := by decide +kernel
theorem dX6_saves_39 : decode cX6_saves 39 = .ok (.aload_n 0, 1) := by decide +kernel
theorem dX6_saves_40 : decode cX6_saves 40 = .ok (.dup, 1) := by decide +kernel
theorem dX6_saves_41 : decode cX6_saves 41 = .ok (.getfield 33, 3) := by decide +kernel
theorem dX6_saves_44 : decode cX6_saves 44 = .ok (.iconst 1, 1) := by decide +kernel
theorem dX6_saves_45 : decode cX6_saves 45 = .ok (.isub, 1) := by decide +kernel
theorem dX6_saves_46 : decode cX6_saves 46 = .ok (.putfield 33, 3) := by decide +kernel
theorem dX6_saves_49 : decode cX6_saves 49 = .ok (.iconst 0, 1) := by decide +kernel
theorem dX6_saves_50 : decode cX6_saves 50 = .ok (.istore_n 1, 1) := by decide +kernel
theorem dX6_saves_51 : decode cX6_saves 51 = .ok (.iload_n 1, 1) := by decide +kernel
theorem dX6_saves_52 : decode cX6_saves 52 = .ok (.sipush 206, 3) := by decide +kernel
theorem dX6_saves_55 : decode cX6_saves 55 = .ok (.if_icmp .ge 30, 3) := by decide +kernel
theorem dX6_saves_58 : decode cX6_saves 58 = .ok (.aload_n 0, 1) := by decide +kernel
theorem dX6_saves_59 : decode cX6_saves 59 = .ok (.getfield 13, 3) := by decide +kernel
theorem dX6_saves_62 : decode cX6_saves 62 = .ok (.sipush 206, 3) := by decide +kernel
theorem dX6_saves_65 : decode cX6_saves 65 = .ok (.aload_n 0, 1) := by decide +kernel
theorem dX6_saves_66 : decode cX6_saves 66 = .ok (.getfield 33, 3) := by decide +kernel
theorem dX6_saves_69 : decode cX6_saves 69 = .ok (.imul, 1) := by decide +kernel
theorem dX6_saves_70 : decode cX6_saves 70 = .ok (.iload_n 1, 1) := by decide +kernel
theorem dX6_saves_71 : decode cX6_saves 71 = .ok (.iadd, 1) := by decide +kernel
theorem dX6_saves_72 : decode cX6_saves 72 = .ok (.aload_n 0, 1) := by decide +kernel
theorem dX6_saves_73 : decode cX6_saves 73 = .ok (.getfield 7, 3) := by decide +kernel
theorem dX6_saves_76 : decode cX6_saves 76 = .ok (.iload_n 1, 1) := by decide +kernel
theorem dX6_saves_77 : decode cX6_saves 77 = .ok (.iaload, 1) := by decide +kernel
theorem dX6_saves_78 : decode cX6_saves 78 = .ok (.iastore, 1) := by decide +kernel
theorem dX6_saves_79 : decode cX6_saves 79 = .ok (.iinc 1 1, 3) := by decide +kernel
theorem dX6_saves_82 : decode cX6_saves 82 = .ok (.goto (-31), 3) := by decide +kernel
theorem dX6_saves_85 : decode cX6_saves 85 = .ok (.aload_n 0, 1) := by decide +kernel
theorem dX6_saves_86 : decode cX6_saves 86 = .ok (.dup, 1) := by decide +kernel
theorem dX6_saves_87 : decode cX6_saves 87 = .ok (.getfield 33, 3) := by decide +kernel
theorem dX6_saves_90 : decode cX6_saves 90 = .ok (.iconst 1, 1) := by decide +kernel
theorem dX6_saves_91 : decode cX6_saves 91 = .ok (.iadd, 1) := by decide +kernel
theorem dX6_saves_92 : decode cX6_saves 92 = .ok (.putfield 33, 3) := by decide +kernel
theorem dX6_saves_95 : decode cX6_saves 95 = .ok (.return_, 1) := by decide +kernel
theorem dX6_undo_0 : decode cX6_undo 0 = .ok (.aload_n 0, 1) := by decide +kernel
theorem dX6_undo_1 : decode cX6_undo 1 = .ok (.aload_n 0, 1) := by decide +kernel
theorem dX6_undo_2 : decode cX6_undo 2 = .ok (.getfield 33, 3) := by decide +kernel
theorem dX6_undo_5 : decode cX6_undo 5 = .ok (.ifCond .ne 7, 3) := by decide +kernel
theorem dX6_undo_8 : decode cX6_undo 8 = .ok (.iconst 1, 1) := by decide +kernel
theorem dX6_undo_9 : decode cX6_undo 9 = .ok (.goto 4, 3) := by decide +kernel
theorem dX6_undo_12 : decode cX6_undo 12 = .ok (.iconst 0, 1) := by decide +kernel
theorem dX6_undo_13 : decode cX6_undo 13 = .ok (.invokevirtual 36, 3) := by decide +kernel
theorem dX6_undo_16 : decode cX6_undo 16 = .ok (.ifCond .eq 5, 3) := by decide +kernel
theorem dX6_undo_19 : decode cX6_undo 19 = .ok (.iconst 0, 1) := by decide +kernel
theorem dX6_undo_20 : decode cX6_undo 20 = .ok (.ireturn, 1) := by decide +kernel
theorem dX6_undo_21 : decode cX6_undo 21 = .ok (.aload_n 0, 1) := by decide +kernel
theorem dX6_undo_22 : decode cX6_undo 22 = .ok (.dup, 1) := by decide +kernel
theorem dX6_undo_23 : decode cX6_undo 23 = .ok (.getfield 33, 3) := by decide +kernel
theorem dX6_undo_26 : decode cX6_undo 26 = .ok (.iconst 1, 1) := by decide +kernel
theorem dX6_undo_27 : decode cX6_undo 27 = .ok (.isub, 1) := by decide +kernel
theorem dX6_undo_28 : decode cX6_undo 28 = .ok (.putfield 33, 3) := by decide +kernel
theorem dX6_undo_31 : decode cX6_undo 31 = .ok (.iconst 0, 1) := by decide +kernel
theorem dX6_undo_32 : decode cX6_undo 32 = .ok (.istore_n 1, 1) := by decide +kernel
theorem dX6_undo_33 : decode cX6_undo 33 = .ok (.iload_n 1, 1) := by decide +kernel
theorem dX6_undo_34 : decode cX6_undo 34 = .ok (.sipush 206, 3) := by decide +kernel
theorem dX6_undo_37 : decode cX6_undo 37 = .ok (.if_icmp .ge 30, 3) := by decide +kernel
theorem dX6_undo_40 : decode cX6_undo 40 = .ok (.aload_n 0, 1) := by decide +kernel
theorem dX6_undo_41 : decode cX6_undo 41 = .ok (.getfield 7, 3) := by decide +kernel
theorem dX6_undo_44 : decode cX6_undo 44 = .ok (.iload_n 1, 1) := by decide +kernel
theorem dX6_undo_45 : decode cX6_undo 45 = .ok (.aload_n 0, 1) := by decide +kernel
theorem dX6_undo_46 : decode cX6_undo 46 = .ok (.getfield 13, 3) := by decide +kernel
theorem dX6_undo_49 : decode cX6_undo 49 = .ok (.sipush 206, 3) := by decide +kernel
theorem dX6_undo_52 : decode cX6_undo 52 = .ok (.aload_n 0, 1) := by decide +kernel
theorem dX6_undo_53 : decode cX6_undo 53 = .ok (.getfield 33, 3) := by decide +kernel
theorem dX6_undo_56 : decode cX6_undo 56 = .ok (.imul, 1) := by decide +kernel
theorem dX6_undo_57 : decode cX6_undo 57 = .ok (.iload_n 1, 1) := by decide +kernel
theorem dX6_undo_58 : decode cX6_undo 58 = .ok (.iadd, 1) := by decide +kernel
theorem dX6_undo_59 : decode cX6_undo 59 = .ok (.iaload, 1) := by decide +kernel
theorem dX6_undo_60 : decode cX6_undo 60 = .ok (.iastore, 1) := by decide +kernel
theorem dX6_undo_61 : decode cX6_undo 61 = .ok (.iinc 1 1, 3) := by decide +kernel
theorem dX6_undo_64 : decode cX6_undo 64 = .ok (.goto (-31), 3) := by decide +kernel
theorem dX6_undo_67 : decode cX6_undo 67 = .ok (.aload_n 0, 1) := by decide +kernel
theorem dX6_undo_68 : decode cX6_undo 68 = .ok (.getfield 33, 3) := by decide +kernel
theorem dX6_undo_71 : decode cX6_undo 71 = .ok (.ireturn, 1) := by decide +kernel
theorem dX6_at_0 : decode cX6_at 0 = .ok (.iconst 5, 1) := by decide +kernel
theorem dX6_at_1 : decode cX6_at 1 = .ok (.bipush 11, 2) := by decide +kernel
theorem dX6_at_3 : decode cX6_at 3 = .ok (.iload_n 0, 1) := by decide +kernel
theorem dX6_at_4 : decode cX6_at 4 = .ok (.imul, 1) := by decide +kernel
theorem dX6_at_5 : decode cX6_at 5 = .ok (.iadd, 1) := by decide +kernel
theorem dX6_at_6 : decode cX6_at 6 = .ok (.iload_n 1, 1) := by decide +kernel
theorem dX6_at_7 : decode cX6_at 7 = .ok (.iadd, 1) := by decide +kernel
theorem dX6_at_8 : decode cX6_at 8 = .ok (.ireturn, 1) := by decide +kernel
theorem dX6_get_0 : decode cX6_get 0 = .ok (.aload_n 0, 1) := by decide +kernel
theorem dX6_get_1 : decode cX6_get 1 = .ok (.getfield 7, 3) := by decide +kernel
theorem dX6_get_4 : decode cX6_get 4 = .ok (.iload_n 1, 1) := by decide +kernel
theorem dX6_get_5 : decode cX6_get 5 = .ok (.iload_n 2, 1) := by decide +kernel
theorem dX6_get_6 : decode cX6_get 6 = .ok (.invokestatic 40, 3) := by decide +kernel
theorem dX6_get_9 : decode cX6_get 9 = .ok (.iaload, 1) := by decide +kernel
theorem dX6_get_10 : decode cX6_get 10 = .ok (.ireturn, 1) := by decide +kernel
theorem dX6_gets_0 : decode cX6_gets 0 = .ok (.aload_n 0, 1) := by decide +kernel
theorem dX6_gets_1 : decode cX6_gets 1 = .ok (.getfield 7, 3) := by decide +kernel
theorem dX6_gets_4 : decode cX6_gets 4 = .ok (.iload_n 1, 1) := by decide +kernel
theorem dX6_gets_5 : decode cX6_gets 5 = .ok (.iload_n 2, 1) := by decide +kernel
theorem dX6_gets_6 : decode cX6_gets 6 = .ok (.invokestatic 40, 3) := by decide +kernel
theorem dX6_gets_9 : decode cX6_gets 9 = .ok (.dup2, 1) := by decide +kernel
theorem dX6_gets_10 : decode cX6_gets 10 = .ok (.iaload, 1) := by decide +kernel
theorem dX6_gets_11 : decode cX6_gets 11 = .ok (.iload_n 3, 1) := by decide +kernel
theorem dX6_gets_12 : decode cX6_gets 12 = .ok (.iadd, 1) := by decide +kernel
theorem dX6_gets_13 : decode cX6_gets 13 = .ok (.iastore, 1) := by decide +kernel
theorem dX6_gets_14 : decode cX6_gets 14 = .ok (.return_, 1) := by decide +kernel
theorem dX6_has_0 : decode cX6_has 0 = .ok (.aload_n 0, 1) := by decide +kernel
theorem dX6_has_1 : decode cX6_has 1 = .ok (.iload_n 1, 1) := by decide +kernel
theorem dX6_has_2 : decode cX6_has 2 = .ok (.bipush 10, 2) := by decide +kernel
theorem dX6_has_4 : decode cX6_has 4 = .ok (.invokevirtual 44, 3) := by decide +kernel
theorem dX6_has_7 : decode cX6_has 7 = .ok (.iload_n 2, 1) := by decide +kernel
theorem dX6_has_8 : decode cX6_has 8 = .ok (.ishr, 1) := by decide +kernel
theorem dX6_has_9 : decode cX6_has 9 = .ok (.iconst 1, 1) := by decide +kernel
theorem dX6_has_10 : decode cX6_has 10 = .ok (.iand, 1) := by decide +kernel
theorem dX6_has_11 : decode cX6_has 11 = .ok (.iconst 1, 1) := by decide +kernel
theorem dX6_has_12 : decode cX6_has 12 = .ok (.if_icmp .ne 7, 3) := by decide +kernel
theorem dX6_has_15 : decode cX6_has 15 = .ok (.iconst 1, 1) := by decide +kernel
theorem dX6_has_16 : decode cX6_has 16 = .ok (.goto 4, 3) := by decide +kernel
theorem dX6_has_19 : decode cX6_has 19 = .ok (.iconst 0, 1) := by decide +kernel
theorem dX6_has_20 : decode cX6_has 20 = .ok (.ireturn, 1) := by decide +kernel
theorem dX6_isPlayer_0 : decode cX6_isPlayer 0 = .ok (.iload_n 1, 1) := by decide +kernel
theorem dX6_isPlayer_1 : decode cX6_isPlayer 1 = .ok (.iconst 0, 1) := by decide +kernel
theorem dX6_isPlayer_2 : decode cX6_isPlayer 2 = .ok (.aload_n 0, 1) := by decide +kernel
theorem dX6_isPlayer_3 : decode cX6_isPlayer 3 = .ok (.getfield 7, 3) := by decide +kernel
theorem dX6_isPlayer_6 : decode cX6_isPlayer 6 = .ok (.iconst 0, 1) := by decide +kernel
theorem dX6_isPlayer_7 : decode cX6_isPlayer 7 = .ok (.iaload, 1) := by decide +kernel
theorem dX6_isPlayer_8 : decode cX6_isPlayer 8 = .ok (.iconst 1, 1) := by decide +kernel
theorem dX6_isPlayer_9 : decode cX6_isPlayer 9 = .ok (.isub, 1) := by decide +kernel
theorem dX6_isPlayer_10 : decode cX6_isPlayer 10 = .ok (.invokestatic 47, 3) := by decide +kernel
theorem dX6_isPlayer_13 : decode cX6_isPlayer 13 = .ok (.ireturn, 1) := by decide +kernel
theorem dX6_ownerOf_0 : decode cX6_ownerOf 0 = .ok (.iconst (-1), 1) := by decide +kernel
theorem dX6_ownerOf_1 : decode cX6_ownerOf 1 = .ok (.istore_n 2, 1) := by decide +kernel
theorem dX6_ownerOf_2 : decode cX6_ownerOf 2 = .ok (.iconst 0, 1) := by decide +kernel
theorem dX6_ownerOf_3 : decode cX6_ownerOf 3 = .ok (.istore_n 3, 1) := by decide +kernel
theorem dX6_ownerOf_4 : decode cX6_ownerOf 4 = .ok (.iload_n 3, 1) := by decide +kernel
theorem dX6_ownerOf_5 : decode cX6_ownerOf 5 = .ok (.aload_n 0, 1) := by decide +kernel
theorem dX6_ownerOf_6 : decode cX6_ownerOf 6 = .ok (.getfield 7, 3) := by decide +kernel
theorem dX6_ownerOf_9 : decode cX6_ownerOf 9 = .ok (.iconst 0, 1) := by decide +kernel
theorem dX6_ownerOf_10 : decode cX6_ownerOf 10 = .ok (.iaload, 1) := by decide +kernel
theorem dX6_ownerOf_11 : decode cX6_ownerOf 11 = .ok (.if_icmp .ge 24, 3) := by decide +kernel
theorem dX6_ownerOf_14 : decode cX6_ownerOf 14 = .ok (.aload_n 0, 1) := by decide +kernel
theorem dX6_ownerOf_15 : decode cX6_ownerOf 15 = .ok (.iload_n 3, 1) := by decide +kernel
theorem dX6_ownerOf_16 : decode cX6_ownerOf 16 = .ok (.iload_n 1, 1) := by decide +kernel
theorem dX6_ownerOf_17 : decode cX6_ownerOf 17 = .ok (.invokevirtual 51, 3) := by decide +kernel
theorem dX6_ownerOf_20 : decode cX6_ownerOf 20 = .ok (.ifCond .eq 7, 3) := by decide +kernel
theorem dX6_ownerOf_23 : decode cX6_ownerOf 23 = .ok (.iload_n 3, 1) := by decide +kernel
theorem dX6_ownerOf_24 : decode cX6_ownerOf 24 = .ok (.goto 4, 3) := by decide +kernel
theorem dX6_ownerOf_27 : decode cX6_ownerOf 27 = .ok (.iload_n 2, 1) := by decide +kernel
theorem dX6_ownerOf_28 : decode cX6_ownerOf 28 = .ok (.istore_n 2, 1) := by decide +kernel
theorem dX6_ownerOf_29 : decode cX6_ownerOf 29 = .ok (.iinc 3 1, 3) := by decide +kernel
theorem dX6_ownerOf_32 : decode cX6_ownerOf 32 = .ok (.goto (-28), 3) := by decide +kernel
theorem dX6_ownerOf_35 : decode cX6_ownerOf 35 = .ok (.iload_n 2, 1) := by decide +kernel
theorem dX6_ownerOf_36 : decode cX6_ownerOf 36 = .ok (.ireturn, 1) := by decide +kernel
theorem dX6_woodOf_0 : decode cX6_woodOf 0 = .ok (.iload_n 0, 1) := by decide +kernel
theorem dX6_woodOf_1 : decode cX6_woodOf 1 = .ok (.tableswitch 55 (-1) 6 #[47, 55, 49, 49, 51, 53, 55, 51], 47) := by decide +kernel
theorem dX6_woodOf_48 : decode cX6_woodOf 48 = .ok (.iconst 4, 1) := by decide +kernel
theorem dX6_woodOf_49 : decode cX6_woodOf 49 = .ok (.ireturn, 1) := by decide +kernel
theorem dX6_woodOf_50 : decode cX6_woodOf 50 = .ok (.iconst 2, 1) := by decide +kernel
theorem dX6_woodOf_51 : decode cX6_woodOf 51 = .ok (.ireturn, 1) := by decide +kernel
theorem dX6_woodOf_52 : decode cX6_woodOf 52 = .ok (.iconst 1, 1) := by decide +kernel
theorem dX6_woodOf_53 : decode cX6_woodOf 53 = .ok (.ireturn, 1) := by decide +kernel
theorem dX6_woodOf_54 : decode cX6_woodOf 54 = .ok (.iconst 3, 1) := by decide +kernel
theorem dX6_woodOf_55 : decode cX6_woodOf 55 = .ok (.ireturn, 1) := by decide +kernel
theorem dX6_woodOf_56 : decode cX6_woodOf 56 = .ok (.iconst 0, 1) := by decide +kernel
theorem dX6_woodOf_57 : decode cX6_woodOf 57 = .ok (.ireturn, 1) := by decide +kernel
theorem dX6_clayOf_0 : decode cX6_clayOf 0 = .ok (.iload_n 0, 1) := by decide +kernel
theorem dX6_clayOf_1 : decode cX6_clayOf 1 = .ok (.tableswitch 57 (-1) 7 #[55, 51, 55, 57, 55, 57, 53, 57, 55], 51) := by decide +kernel
theorem dX6_clayOf_52 : decode cX6_clayOf 52 = .ok (.iconst 3, 1) := by decide +kernel
theorem dX6_clayOf_53 : decode cX6_clayOf 53 = .ok (.ireturn, 1) := by decide +kernel
theorem dX6_clayOf_54 : decode cX6_clayOf 54 = .ok (.iconst 2, 1) := by decide +kernel
theorem dX6_clayOf_55 : decode cX6_clayOf 55 = .ok (.ireturn, 1) := by decide +kernel
theorem dX6_clayOf_56 : decode cX6_clayOf 56 = .ok (.iconst 1, 1) := by decide +kernel
theorem dX6_clayOf_57 : decode cX6_clayOf 57 = .ok (.ireturn, 1) := by decide +kernel
theorem dX6_clayOf_58 : decode cX6_clayOf 58 = .ok (.iconst 0, 1) := by decide +kernel
theorem dX6_clayOf_59 : decode cX6_clayOf 59 = .ok (.ireturn, 1) := by decide +kernel
theorem dX6_pointsOf_0 : decode cX6_pointsOf 0 = .ok (.iload_n 0, 1) := by decide +kernel
theorem dX6_pointsOf_1 : decode cX6_pointsOf 1 = .ok (.ifCond .eq 13, 3) := by decide +kernel
theorem dX6_pointsOf_4 : decode cX6_pointsOf 4 = .ok (.iload_n 0, 1) := by decide +kernel
theorem dX6_pointsOf_5 : decode cX6_pointsOf 5 = .ok (.iconst 1, 1) := by decide +kernel
theorem dX6_pointsOf_6 : decode cX6_pointsOf 6 = .ok (.if_icmp .eq 8, 3) := by decide +kernel
theorem dX6_pointsOf_9 : decode cX6_pointsOf 9 = .ok (.iload_n 0, 1) := by decide +kernel
theorem dX6_pointsOf_10 : decode cX6_pointsOf 10 = .ok (.iconst 5, 1) := by decide +kernel
theorem dX6_pointsOf_11 : decode cX6_pointsOf 11 = .ok (.if_icmp .ne 7, 3) := by decide +kernel
theorem dX6_pointsOf_14 : decode cX6_pointsOf 14 = .ok (.iconst 2, 1) := by decide +kernel
theorem dX6_pointsOf_15 : decode cX6_pointsOf 15 = .ok (.goto 4, 3) := by decide +kernel
theorem dX6_pointsOf_18 : decode cX6_pointsOf 18 = .ok (.iconst 1, 1) := by decide +kernel
theorem dX6_pointsOf_19 : decode cX6_pointsOf 19 = .ok (.ireturn, 1) := by decide +kernel
theorem dX6_costOf_0 : decode cX6_costOf 0 = .ok (.iload_n 3, 1) := by decide +kernel
theorem dX6_costOf_1 : decode cX6_costOf 1 = .ok (.ifCond .ne 10, 3) := by decide +kernel
theorem dX6_costOf_4 : decode cX6_costOf 4 = .ok (.iload_n 2, 1) := by decide +kernel
theorem dX6_costOf_5 : decode cX6_costOf 5 = .ok (.invokestatic 55, 3) := by decide +kernel
theorem dX6_costOf_8 : decode cX6_costOf 8 = .ok (.goto 7, 3) := by decide +kernel
theorem dX6_costOf_11 : decode cX6_costOf 11 = .ok (.iload_n 2, 1) := by decide +kernel
theorem dX6_costOf_12 : decode cX6_costOf 12 = .ok (.invokestatic 59, 3) := by decide +kernel
theorem dX6_costOf_15 : decode cX6_costOf 15 = .ok (.istore 4, 2) := by decide +kernel
theorem dX6_costOf_17 : decode cX6_costOf 17 = .ok (.iload_n 3, 1) := by decide +kernel
theorem dX6_costOf_18 : decode cX6_costOf 18 = .ok (.ifCond .ne 8, 3) := by decide +kernel
theorem dX6_costOf_21 : decode cX6_costOf 21 = .ok (.bipush 6, 2) := by decide +kernel
theorem dX6_costOf_23 : decode cX6_costOf 23 = .ok (.goto 5, 3) := by decide +kernel
theorem dX6_costOf_26 : decode cX6_costOf 26 = .ok (.bipush 7, 2) := by decide +kernel
theorem dX6_costOf_28 : decode cX6_costOf 28 = .ok (.istore 5, 2) := by decide +kernel
theorem dX6_costOf_30 : decode cX6_costOf 30 = .ok (.aload_n 0, 1) := by decide +kernel
theorem dX6_costOf_31 : decode cX6_costOf 31 = .ok (.iload_n 1, 1) := by decide +kernel
theorem dX6_costOf_32 : decode cX6_costOf 32 = .ok (.iload 5, 2) := by decide +kernel
theorem dX6_costOf_34 : decode cX6_costOf 34 = .ok (.invokevirtual 51, 3) := by decide +kernel
theorem dX6_costOf_37 : decode cX6_costOf 37 = .ok (.ifCond .eq 21, 3) := by decide +kernel
theorem dX6_costOf_40 : decode cX6_costOf 40 = .ok (.iload_n 2, 1) := by decide +kernel
theorem dX6_costOf_41 : decode cX6_costOf 41 = .ok (.iload 5, 2) := by decide +kernel
theorem dX6_costOf_43 : decode cX6_costOf 43 = .ok (.if_icmp .eq 15, 3) := by decide +kernel
theorem dX6_costOf_46 : decode cX6_costOf 46 = .ok (.iload 4, 2) := by decide +kernel
theorem dX6_costOf_48 : decode cX6_costOf 48 = .ok (.ifCond .le 10, 3) := by decide +kernel
theorem dX6_costOf_51 : decode cX6_costOf 51 = .ok (.iload 4, 2) := by decide +kernel
theorem dX6_costOf_53 : decode cX6_costOf 53 = .ok (.iconst 1, 1) := by decide +kernel
theorem dX6_costOf_54 : decode cX6_costOf 54 = .ok (.isub, 1) := by decide +kernel
theorem dX6_costOf_55 : decode cX6_costOf 55 = .ok (.goto 5, 3) := by decide +kernel
theorem dX6_costOf_58 : decode cX6_costOf 58 = .ok (.iload 4, 2) := by decide +kernel
theorem dX6_costOf_60 : decode cX6_costOf 60 = .ok (.ireturn, 1) := by decide +kernel
theorem dX6_begins_0 : decode cX6_begins 0 = .ok (.iconst 0, 1) := by decide +kernel
theorem dX6_begins_1 : decode cX6_begins 1 = .ok (.istore_n 3, 1) := by decide +kernel
theorem dX6_begins_2 : decode cX6_begins 2 = .ok (.iload_n 3, 1) := by decide +kernel
theorem dX6_begins_3 : decode cX6_begins 3 = .ok (.sipush 206, 3) := by decide +kernel
theorem dX6_begins_6 : decode cX6_begins 6 = .ok (.if_icmp .ge 16, 3) := by decide +kernel
theorem dX6_begins_9 : decode cX6_begins 9 = .ok (.aload_n 0, 1) := by decide +kernel
theorem dX6_begins_10 : decode cX6_begins 10 = .ok (.getfield 7, 3) := by decide +kernel
theorem dX6_begins_13 : decode cX6_begins 13 = .ok (.iload_n 3, 1) := by decide +kernel
theorem dX6_begins_14 : decode cX6_begins 14 = .ok (.iconst 0, 1) := by decide +kernel
theorem dX6_begins_15 : decode cX6_begins 15 = .ok (.iastore, 1) := by decide +kernel
theorem dX6_begins_16 : decode cX6_begins 16 = .ok (.iinc 3 1, 3) := by decide +kernel
theorem dX6_begins_19 : decode cX6_begins 19 = .ok (.goto (-17), 3) := by decide +kernel
theorem dX6_begins_22 : decode cX6_begins 22 = .ok (.aload_n 0, 1) := by decide +kernel
theorem dX6_begins_23 : decode cX6_begins 23 = .ok (.getfield 7, 3) := by decide +kernel
theorem dX6_begins_26 : decode cX6_begins 26 = .ok (.iconst 0, 1) := by decide +kernel
theorem dX6_begins_27 : decode cX6_begins 27 = .ok (.iload_n 1, 1) := by decide +kernel
theorem dX6_begins_28 : decode cX6_begins 28 = .ok (.iastore, 1) := by decide +kernel
theorem dX6_begins_29 : decode cX6_begins 29 = .ok (.aload_n 0, 1) := by decide +kernel
theorem dX6_begins_30 : decode cX6_begins 30 = .ok (.getfield 7, 3) := by decide +kernel
theorem dX6_begins_33 : decode cX6_begins 33 = .ok (.iconst 1, 1) := by decide +kernel
theorem dX6_begins_34 : decode cX6_begins 34 = .ok (.iload_n 2, 1) := by decide +kernel
theorem dX6_begins_35 : decode cX6_begins 35 = .ok (.iastore, 1) := by decide +kernel
theorem dX6_begins_36 : decode cX6_begins 36 = .ok (.iconst 0, 1) := by decide +kernel
theorem dX6_begins_37 : decode cX6_begins 37 = .ok (.istore_n 3, 1) := by decide +kernel
theorem dX6_begins_38 : decode cX6_begins 38 = .ok (.iload_n 3, 1) := by decide +kernel
theorem dX6_begins_39 : decode cX6_begins 39 = .ok (.iload_n 1, 1) := by decide +kernel
theorem dX6_begins_40 : decode cX6_begins 40 = .ok (.if_icmp .ge 51, 3) := by decide +kernel
theorem dX6_begins_43 : decode cX6_begins 43 = .ok (.aload_n 0, 1) := by decide +kernel
theorem dX6_begins_44 : decode cX6_begins 44 = .ok (.getfield 7, 3) := by decide +kernel
theorem dX6_begins_47 : decode cX6_begins 47 = .ok (.iload_n 3, 1) := by decide +kernel
theorem dX6_begins_48 : decode cX6_begins 48 = .ok (.iconst 4, 1) := by decide +kernel
theorem dX6_begins_49 : decode cX6_begins 49 = .ok (.invokestatic 40, 3) := by decide +kernel
theorem dX6_begins_52 : decode cX6_begins 52 = .ok (.iload_n 3, 1) := by decide +kernel
theorem dX6_begins_53 : decode cX6_begins 53 = .ok (.ifCond .ne 7, 3) := by decide +kernel
theorem dX6_begins_56 : decode cX6_begins 56 = .ok (.iconst 2, 1) := by decide +kernel
theorem dX6_begins_57 : decode cX6_begins 57 = .ok (.goto 4, 3) := by decide +kernel
theorem dX6_begins_60 : decode cX6_begins 60 = .ok (.iconst 3, 1) := by decide +kernel
theorem dX6_begins_61 : decode cX6_begins 61 = .ok (.iastore, 1) := by decide +kernel
theorem dX6_begins_62 : decode cX6_begins 62 = .ok (.aload_n 0, 1) := by decide +kernel
theorem dX6_begins_63 : decode cX6_begins 63 = .ok (.getfield 7, 3) := by decide +kernel
theorem dX6_begins_66 : decode cX6_begins 66 = .ok (.iload_n 3, 1) := by decide +kernel
theorem dX6_begins_67 : decode cX6_begins 67 = .ok (.iconst 5, 1) := by decide +kernel
theorem dX6_begins_68 : decode cX6_begins 68 = .ok (.invokestatic 40, 3) := by decide +kernel
theorem dX6_begins_71 : decode cX6_begins 71 = .ok (.iconst 2, 1) := by decide +kernel
theorem dX6_begins_72 : decode cX6_begins 72 = .ok (.iastore, 1) := by decide +kernel
theorem dX6_begins_73 : decode cX6_begins 73 = .ok (.aload_n 0, 1) := by decide +kernel
theorem dX6_begins_74 : decode cX6_begins 74 = .ok (.getfield 7, 3) := by decide +kernel
theorem dX6_begins_77 : decode cX6_begins 77 = .ok (.iload_n 3, 1) := by decide +kernel
theorem dX6_begins_78 : decode cX6_begins 78 = .ok (.bipush 8, 2) := by decide +kernel
theorem dX6_begins_80 : decode cX6_begins 80 = .ok (.invokestatic 40, 3) := by decide +kernel
theorem dX6_begins_83 : decode cX6_begins 83 = .ok (.iconst 2, 1) := by decide +kernel
theorem dX6_begins_84 : decode cX6_begins 84 = .ok (.iastore, 1) := by decide +kernel
theorem dX6_begins_85 : decode cX6_begins 85 = .ok (.iinc 3 1, 3) := by decide +kernel
theorem dX6_begins_88 : decode cX6_begins 88 = .ok (.goto (-50), 3) := by decide +kernel
theorem dX6_begins_91 : decode cX6_begins 91 = .ok (.aload_n 0, 1) := by decide +kernel
theorem dX6_begins_92 : decode cX6_begins 92 = .ok (.invokevirtual 62, 3) := by decide +kernel
theorem dX6_begins_95 : decode cX6_begins 95 = .ok (.return_, 1) := by decide +kernel
theorem dX6_spaceAt_0 : decode cX6_spaceAt 0 = .ok (.bipush 49, 2) := by decide +kernel
theorem dX6_spaceAt_2 : decode cX6_spaceAt 2 = .ok (.iconst 3, 1) := by decide +kernel
theorem dX6_spaceAt_3 : decode cX6_spaceAt 3 = .ok (.iload_n 0, 1) := by decide +kernel
theorem dX6_spaceAt_4 : decode cX6_spaceAt 4 = .ok (.imul, 1) := by decide +kernel
theorem dX6_spaceAt_5 : decode cX6_spaceAt 5 = .ok (.iadd, 1) := by decide +kernel
theorem dX6_spaceAt_6 : decode cX6_spaceAt 6 = .ok (.iload_n 1, 1) := by decide +kernel
theorem dX6_spaceAt_7 : decode cX6_spaceAt 7 = .ok (.iadd, 1) := by decide +kernel
theorem dX6_spaceAt_8 : decode cX6_spaceAt 8 = .ok (.ireturn, 1) := by decide +kernel
theorem dX6_startsRound_0 : decode cX6_startsRound 0 = .ok (.aload_n 0, 1) := by decide +kernel
theorem dX6_startsRound_1 : decode cX6_startsRound 1 = .ok (.getfield 7, 3) := by decide +kernel
theorem dX6_startsRound_4 : decode cX6_startsRound 4 = .ok (.iconst 2, 1) := by decide +kernel
theorem dX6_startsRound_5 : decode cX6_startsRound 5 = .ok (.dup2, 1) := by decide +kernel
theorem dX6_startsRound_6 : decode cX6_startsRound 6 = .ok (.iaload, 1) := by decide +kernel
theorem dX6_startsRound_7 : decode cX6_startsRound 7 = .ok (.iconst 1, 1) := by decide +kernel
theorem dX6_startsRound_8 : decode cX6_startsRound 8 = .ok (.iadd, 1) := by decide +kernel
theorem dX6_startsRound_9 : decode cX6_startsRound 9 = .ok (.iastore, 1) := by decide +kernel
theorem dX6_startsRound_10 : decode cX6_startsRound 10 = .ok (.aload_n 0, 1) := by decide +kernel
theorem dX6_startsRound_11 : decode cX6_startsRound 11 = .ok (.getfield 7, 3) := by decide +kernel
theorem dX6_startsRound_14 : decode cX6_startsRound 14 = .ok (.iconst 0, 1) := by decide +kernel
theorem dX6_startsRound_15 : decode cX6_startsRound 15 = .ok (.iconst 0, 1) := by decide +kernel
theorem dX6_startsRound_16 : decode cX6_startsRound 16 = .ok (.invokestatic 65, 3) := by decide +kernel
theorem dX6_startsRound_19 : decode cX6_startsRound 19 = .ok (.dup2, 1) := by decide +kernel
theorem dX6_startsRound_20 : decode cX6_startsRound 20 = .ok (.iaload, 1) := by decide +kernel
theorem dX6_startsRound_21 : decode cX6_startsRound 21 = .ok (.iconst 3, 1) := by decide +kernel
theorem dX6_startsRound_22 : decode cX6_startsRound 22 = .ok (.iadd, 1) := by decide +kernel
theorem dX6_startsRound_23 : decode cX6_startsRound 23 = .ok (.iastore, 1) := by decide +kernel
theorem dX6_startsRound_24 : decode cX6_startsRound 24 = .ok (.aload_n 0, 1) := by decide +kernel
theorem dX6_startsRound_25 : decode cX6_startsRound 25 = .ok (.getfield 7, 3) := by decide +kernel
theorem dX6_startsRound_28 : decode cX6_startsRound 28 = .ok (.iconst 1, 1) := by decide +kernel
theorem dX6_startsRound_29 : decode cX6_startsRound 29 = .ok (.iconst 0, 1) := by decide +kernel
theorem dX6_startsRound_30 : decode cX6_startsRound 30 = .ok (.invokestatic 65, 3) := by decide +kernel
theorem dX6_startsRound_33 : decode cX6_startsRound 33 = .ok (.dup2, 1) := by decide +kernel
theorem dX6_startsRound_34 : decode cX6_startsRound 34 = .ok (.iaload, 1) := by decide +kernel
theorem dX6_startsRound_35 : decode cX6_startsRound 35 = .ok (.iconst 2, 1) := by decide +kernel
theorem dX6_startsRound_36 : decode cX6_startsRound 36 = .ok (.iadd, 1) := by decide +kernel
theorem dX6_startsRound_37 : decode cX6_startsRound 37 = .ok (.iastore, 1) := by decide +kernel
theorem dX6_startsRound_38 : decode cX6_startsRound 38 = .ok (.aload_n 0, 1) := by decide +kernel
theorem dX6_startsRound_39 : decode cX6_startsRound 39 = .ok (.getfield 7, 3) := by decide +kernel
theorem dX6_startsRound_42 : decode cX6_startsRound 42 = .ok (.iconst 3, 1) := by decide +kernel
theorem dX6_startsRound_43 : decode cX6_startsRound 43 = .ok (.iconst 0, 1) := by decide +kernel
theorem dX6_startsRound_44 : decode cX6_startsRound 44 = .ok (.invokestatic 65, 3) := by decide +kernel
theorem dX6_startsRound_47 : decode cX6_startsRound 47 = .ok (.dup2, 1) := by decide +kernel
theorem dX6_startsRound_48 : decode cX6_startsRound 48 = .ok (.iaload, 1) := by decide +kernel
theorem dX6_startsRound_49 : decode cX6_startsRound 49 = .ok (.iconst 1, 1) := by decide +kernel
theorem dX6_startsRound_50 : decode cX6_startsRound 50 = .ok (.iadd, 1) := by decide +kernel
theorem dX6_startsRound_51 : decode cX6_startsRound 51 = .ok (.iastore, 1) := by decide +kernel
theorem dX6_startsRound_52 : decode cX6_startsRound 52 = .ok (.aload_n 0, 1) := by decide +kernel
theorem dX6_startsRound_53 : decode cX6_startsRound 53 = .ok (.getfield 7, 3) := by decide +kernel
theorem dX6_startsRound_56 : decode cX6_startsRound 56 = .ok (.iconst 5, 1) := by decide +kernel
theorem dX6_startsRound_57 : decode cX6_startsRound 57 = .ok (.iconst 0, 1) := by decide +kernel
theorem dX6_startsRound_58 : decode cX6_startsRound 58 = .ok (.invokestatic 65, 3) := by decide +kernel
theorem dX6_startsRound_61 : decode cX6_startsRound 61 = .ok (.dup2, 1) := by decide +kernel
theorem dX6_startsRound_62 : decode cX6_startsRound 62 = .ok (.iaload, 1) := by decide +kernel
theorem dX6_startsRound_63 : decode cX6_startsRound 63 = .ok (.iconst 1, 1) := by decide +kernel
theorem dX6_startsRound_64 : decode cX6_startsRound 64 = .ok (.iadd, 1) := by decide +kernel
theorem dX6_startsRound_65 : decode cX6_startsRound 65 = .ok (.iastore, 1) := by decide +kernel
theorem dX6_startsRound_66 : decode cX6_startsRound 66 = .ok (.iconst 0, 1) := by decide +kernel
theorem dX6_startsRound_67 : decode cX6_startsRound 67 = .ok (.istore_n 1, 1) := by decide +kernel
theorem dX6_startsRound_68 : decode cX6_startsRound 68 = .ok (.iload_n 1, 1) := by decide +kernel
theorem dX6_startsRound_69 : decode cX6_startsRound 69 = .ok (.bipush 12, 2) := by decide +kernel
theorem dX6_startsRound_71 : decode cX6_startsRound 71 = .ok (.if_icmp .ge 31, 3) := by decide +kernel
theorem dX6_startsRound_74 : decode cX6_startsRound 74 = .ok (.aload_n 0, 1) := by decide +kernel
theorem dX6_startsRound_75 : decode cX6_startsRound 75 = .ok (.getfield 7, 3) := by decide +kernel
theorem dX6_startsRound_78 : decode cX6_startsRound 78 = .ok (.iload_n 1, 1) := by decide +kernel
theorem dX6_startsRound_79 : decode cX6_startsRound 79 = .ok (.iconst 1, 1) := by decide +kernel
theorem dX6_startsRound_80 : decode cX6_startsRound 80 = .ok (.invokestatic 65, 3) := by decide +kernel
theorem dX6_startsRound_83 : decode cX6_startsRound 83 = .ok (.iconst 0, 1) := by decide +kernel
theorem dX6_startsRound_84 : decode cX6_startsRound 84 = .ok (.iastore, 1) := by decide +kernel
theorem dX6_startsRound_85 : decode cX6_startsRound 85 = .ok (.aload_n 0, 1) := by decide +kernel
theorem dX6_startsRound_86 : decode cX6_startsRound 86 = .ok (.getfield 7, 3) := by decide +kernel
theorem dX6_startsRound_89 : decode cX6_startsRound 89 = .ok (.iload_n 1, 1) := by decide +kernel
theorem dX6_startsRound_90 : decode cX6_startsRound 90 = .ok (.iconst 2, 1) := by decide +kernel
theorem dX6_startsRound_91 : decode cX6_startsRound 91 = .ok (.invokestatic 65, 3) := by decide +kernel
theorem dX6_startsRound_94 : decode cX6_startsRound 94 = .ok (.iconst (-1), 1) := by decide +kernel
theorem dX6_startsRound_95 : decode cX6_startsRound 95 = .ok (.iastore, 1) := by decide +kernel
theorem dX6_startsRound_96 : decode cX6_startsRound 96 = .ok (.iinc 1 1, 3) := by decide +kernel
theorem dX6_startsRound_99 : decode cX6_startsRound 99 = .ok (.goto (-31), 3) := by decide +kernel
theorem dX6_startsRound_102 : decode cX6_startsRound 102 = .ok (.iconst 0, 1) := by decide +kernel
theorem dX6_startsRound_103 : decode cX6_startsRound 103 = .ok (.istore_n 1, 1) := by decide +kernel
theorem dX6_startsRound_104 : decode cX6_startsRound 104 = .ok (.iload_n 1, 1) := by decide +kernel
theorem dX6_startsRound_105 : decode cX6_startsRound 105 = .ok (.aload_n 0, 1) := by decide +kernel
theorem dX6_startsRound_106 : decode cX6_startsRound 106 = .ok (.getfield 7, 3) := by decide +kernel
theorem dX6_startsRound_109 : decode cX6_startsRound 109 = .ok (.iconst 0, 1) := by decide +kernel
theorem dX6_startsRound_110 : decode cX6_startsRound 110 = .ok (.iaload, 1) := by decide +kernel
theorem dX6_startsRound_111 : decode cX6_startsRound 111 = .ok (.if_icmp .ge 58, 3) := by decide +kernel
theorem dX6_startsRound_114 : decode cX6_startsRound 114 = .ok (.aload_n 0, 1) := by decide +kernel
theorem dX6_startsRound_115 : decode cX6_startsRound 115 = .ok (.iload_n 1, 1) := by decide +kernel
theorem dX6_startsRound_116 : decode cX6_startsRound 116 = .ok (.iconst 4, 1) := by decide +kernel
theorem dX6_startsRound_117 : decode cX6_startsRound 117 = .ok (.aload_n 0, 1) := by decide +kernel
theorem dX6_startsRound_118 : decode cX6_startsRound 118 = .ok (.iload_n 1, 1) := by decide +kernel
theorem dX6_startsRound_119 : decode cX6_startsRound 119 = .ok (.iconst 5, 1) := by decide +kernel
theorem dX6_startsRound_120 : decode cX6_startsRound 120 = .ok (.invokevirtual 51, 3) := by decide +kernel
theorem dX6_startsRound_123 : decode cX6_startsRound 123 = .ok (.ifCond .eq 7, 3) := by decide +kernel
theorem dX6_startsRound_126 : decode cX6_startsRound 126 = .ok (.iconst 1, 1) := by decide +kernel
theorem dX6_startsRound_127 : decode cX6_startsRound 127 = .ok (.goto 4, 3) := by decide +kernel
theorem dX6_startsRound_130 : decode cX6_startsRound 130 = .ok (.iconst 0, 1) := by decide +kernel
theorem dX6_startsRound_131 : decode cX6_startsRound 131 = .ok (.invokevirtual 68, 3) := by decide +kernel
theorem dX6_startsRound_134 : decode cX6_startsRound 134 = .ok (.aload_n 0, 1) := by decide +kernel
theorem dX6_startsRound_135 : decode cX6_startsRound 135 = .ok (.getfield 7, 3) := by decide +kernel
theorem dX6_startsRound_138 : decode cX6_startsRound 138 = .ok (.iload_n 1, 1) := by decide +kernel
theorem dX6_startsRound_139 : decode cX6_startsRound 139 = .ok (.bipush 6, 2) := by decide +kernel
theorem dX6_startsRound_141 : decode cX6_startsRound 141 = .ok (.invokestatic 40, 3) := by decide +kernel
theorem dX6_startsRound_144 : decode cX6_startsRound 144 = .ok (.iconst 0, 1) := by decide +kernel
theorem dX6_startsRound_145 : decode cX6_startsRound 145 = .ok (.iastore, 1) := by decide +kernel
theorem dX6_startsRound_146 : decode cX6_startsRound 146 = .ok (.aload_n 0, 1) := by decide +kernel
theorem dX6_startsRound_147 : decode cX6_startsRound 147 = .ok (.getfield 7, 3) := by decide +kernel
theorem dX6_startsRound_150 : decode cX6_startsRound 150 = .ok (.iload_n 1, 1) := by decide +kernel
theorem dX6_startsRound_151 : decode cX6_startsRound 151 = .ok (.bipush 7, 2) := by decide +kernel
theorem dX6_startsRound_153 : decode cX6_startsRound 153 = .ok (.invokestatic 40, 3) := by decide +kernel
theorem dX6_startsRound_156 : decode cX6_startsRound 156 = .ok (.aload_n 0, 1) := by decide +kernel
theorem dX6_startsRound_157 : decode cX6_startsRound 157 = .ok (.iload_n 1, 1) := by decide +kernel
theorem dX6_startsRound_158 : decode cX6_startsRound 158 = .ok (.iconst 5, 1) := by decide +kernel
theorem dX6_startsRound_159 : decode cX6_startsRound 159 = .ok (.invokevirtual 44, 3) := by decide +kernel
theorem dX6_startsRound_162 : decode cX6_startsRound 162 = .ok (.iastore, 1) := by decide +kernel
theorem dX6_startsRound_163 : decode cX6_startsRound 163 = .ok (.iinc 1 1, 3) := by decide +kernel
theorem dX6_startsRound_166 : decode cX6_startsRound 166 = .ok (.goto (-62), 3) := by decide +kernel
theorem dX6_startsRound_169 : decode cX6_startsRound 169 = .ok (.aload_n 0, 1) := by decide +kernel
theorem dX6_startsRound_170 : decode cX6_startsRound 170 = .ok (.getfield 7, 3) := by decide +kernel
theorem dX6_startsRound_173 : decode cX6_startsRound 173 = .ok (.iconst 3, 1) := by decide +kernel
theorem dX6_startsRound_174 : decode cX6_startsRound 174 = .ok (.aload_n 0, 1) := by decide +kernel
theorem dX6_startsRound_175 : decode cX6_startsRound 175 = .ok (.getfield 7, 3) := by decide +kernel
theorem dX6_startsRound_178 : decode cX6_startsRound 178 = .ok (.iconst 4, 1) := by decide +kernel
theorem dX6_startsRound_179 : decode cX6_startsRound 179 = .ok (.iaload, 1) := by decide +kernel
theorem dX6_startsRound_180 : decode cX6_startsRound 180 = .ok (.iastore, 1) := by decide +kernel
theorem dX6_startsRound_181 : decode cX6_startsRound 181 = .ok (.return_, 1) := by decide +kernel
theorem dX6_needOf_0 : decode cX6_needOf 0 = .ok (.iconst 2, 1) := by decide +kernel
theorem dX6_needOf_1 : decode cX6_needOf 1 = .ok (.aload_n 0, 1) := by decide +kernel
theorem dX6_needOf_2 : decode cX6_needOf 2 = .ok (.iload_n 1, 1) := by decide +kernel
theorem dX6_needOf_3 : decode cX6_needOf 3 = .ok (.iconst 5, 1) := by decide +kernel
theorem dX6_needOf_4 : decode cX6_needOf 4 = .ok (.invokevirtual 44, 3) := by decide +kernel
theorem dX6_needOf_7 : decode cX6_needOf 7 = .ok (.imul, 1) := by decide +kernel
theorem dX6_needOf_8 : decode cX6_needOf 8 = .ok (.aload_n 0, 1) := by decide +kernel
theorem dX6_needOf_9 : decode cX6_needOf 9 = .ok (.iload_n 1, 1) := by decide +kernel
theorem dX6_needOf_10 : decode cX6_needOf 10 = .ok (.bipush 6, 2) := by decide +kernel
theorem dX6_needOf_12 : decode cX6_needOf 12 = .ok (.invokevirtual 44, 3) := by decide +kernel
theorem dX6_needOf_15 : decode cX6_needOf 15 = .ok (.isub, 1) := by decide +kernel
theorem dX6_needOf_16 : decode cX6_needOf 16 = .ok (.ireturn, 1) := by decide +kernel
theorem dX6_grainPaid_0 : decode cX6_grainPaid 0 = .ok (.aload_n 0, 1) := by decide +kernel
theorem dX6_grainPaid_1 : decode cX6_grainPaid 1 = .ok (.iload_n 1, 1) := by decide +kernel
theorem dX6_grainPaid_2 : decode cX6_grainPaid 2 = .ok (.invokevirtual 72, 3) := by decide +kernel
theorem dX6_grainPaid_5 : decode cX6_grainPaid 5 = .ok (.aload_n 0, 1) := by decide +kernel
theorem dX6_grainPaid_6 : decode cX6_grainPaid 6 = .ok (.iload_n 1, 1) := by decide +kernel
theorem dX6_grainPaid_7 : decode cX6_grainPaid 7 = .ok (.iconst 4, 1) := by decide +kernel
theorem dX6_grainPaid_8 : decode cX6_grainPaid 8 = .ok (.invokevirtual 44, 3) := by decide +kernel
theorem dX6_grainPaid_11 : decode cX6_grainPaid 11 = .ok (.isub, 1) := by decide +kernel
theorem dX6_grainPaid_12 : decode cX6_grainPaid 12 = .ok (.istore_n 2, 1) := by decide +kernel
theorem dX6_grainPaid_13 : decode cX6_grainPaid 13 = .ok (.iload_n 2, 1) := by decide +kernel
theorem dX6_grainPaid_14 : decode cX6_grainPaid 14 = .ok (.ifCond .ge 7, 3) := by decide +kernel
theorem dX6_grainPaid_17 : decode cX6_grainPaid 17 = .ok (.iconst 0, 1) := by decide +kernel
theorem dX6_grainPaid_18 : decode cX6_grainPaid 18 = .ok (.goto 23, 3) := by decide +kernel
theorem dX6_grainPaid_21 : decode cX6_grainPaid 21 = .ok (.iload_n 2, 1) := by decide +kernel
theorem dX6_grainPaid_22 : decode cX6_grainPaid 22 = .ok (.aload_n 0, 1) := by decide +kernel
theorem dX6_grainPaid_23 : decode cX6_grainPaid 23 = .ok (.iload_n 1, 1) := by decide +kernel
theorem dX6_grainPaid_24 : decode cX6_grainPaid 24 = .ok (.iconst 2, 1) := by decide +kernel
theorem dX6_grainPaid_25 : decode cX6_grainPaid 25 = .ok (.invokevirtual 44, 3) := by decide +kernel
theorem dX6_grainPaid_28 : decode cX6_grainPaid 28 = .ok (.if_icmp .ge 7, 3) := by decide +kernel
theorem dX6_grainPaid_31 : decode cX6_grainPaid 31 = .ok (.iload_n 2, 1) := by decide +kernel
theorem dX6_grainPaid_32 : decode cX6_grainPaid 32 = .ok (.goto 9, 3) := by decide +kernel
theorem dX6_grainPaid_35 : decode cX6_grainPaid 35 = .ok (.aload_n 0, 1) := by decide +kernel
theorem dX6_grainPaid_36 : decode cX6_grainPaid 36 = .ok (.iload_n 1, 1) := by decide +kernel
theorem dX6_grainPaid_37 : decode cX6_grainPaid 37 = .ok (.iconst 2, 1) := by decide +kernel
theorem dX6_grainPaid_38 : decode cX6_grainPaid 38 = .ok (.invokevirtual 44, 3) := by decide +kernel
theorem dX6_grainPaid_41 : decode cX6_grainPaid 41 = .ok (.ireturn, 1) := by decide +kernel
theorem dX6_sheepWorth_0 : decode cX6_sheepWorth 0 = .ok (.aload_n 0, 1) := by decide +kernel
theorem dX6_sheepWorth_1 : decode cX6_sheepWorth 1 = .ok (.iload_n 1, 1) := by decide +kernel
theorem dX6_sheepWorth_2 : decode cX6_sheepWorth 2 = .ok (.iconst 3, 1) := by decide +kernel
theorem dX6_sheepWorth_3 : decode cX6_sheepWorth 3 = .ok (.invokevirtual 51, 3) := by decide +kernel
theorem dX6_sheepWorth_6 : decode cX6_sheepWorth 6 = .ok (.ifCond .eq 7, 3) := by decide +kernel
theorem dX6_sheepWorth_9 : decode cX6_sheepWorth 9 = .ok (.iconst 4, 1) := by decide +kernel
theorem dX6_sheepWorth_10 : decode cX6_sheepWorth 10 = .ok (.goto 4, 3) := by decide +kernel
theorem dX6_sheepWorth_13 : decode cX6_sheepWorth 13 = .ok (.iconst 2, 1) := by decide +kernel
theorem dX6_sheepWorth_14 : decode cX6_sheepWorth 14 = .ok (.ireturn, 1) := by decide +kernel
theorem dX6_sheepPaid_0 : decode cX6_sheepPaid 0 = .ok (.aload_n 0, 1) := by decide +kernel
theorem dX6_sheepPaid_1 : decode cX6_sheepPaid 1 = .ok (.iload_n 1, 1) := by decide +kernel
theorem dX6_sheepPaid_2 : decode cX6_sheepPaid 2 = .ok (.invokevirtual 72, 3) := by decide +kernel
theorem dX6_sheepPaid_5 : decode cX6_sheepPaid 5 = .ok (.aload_n 0, 1) := by decide +kernel
theorem dX6_sheepPaid_6 : decode cX6_sheepPaid 6 = .ok (.iload_n 1, 1) := by decide +kernel
theorem dX6_sheepPaid_7 : decode cX6_sheepPaid 7 = .ok (.iconst 4, 1) := by decide +kernel
theorem dX6_sheepPaid_8 : decode cX6_sheepPaid 8 = .ok (.invokevirtual 44, 3) := by decide +kernel
theorem dX6_sheepPaid_11 : decode cX6_sheepPaid 11 = .ok (.isub, 1) := by decide +kernel
theorem dX6_sheepPaid_12 : decode cX6_sheepPaid 12 = .ok (.aload_n 0, 1) := by decide +kernel
theorem dX6_sheepPaid_13 : decode cX6_sheepPaid 13 = .ok (.iload_n 1, 1) := by decide +kernel
theorem dX6_sheepPaid_14 : decode cX6_sheepPaid 14 = .ok (.invokevirtual 75, 3) := by decide +kernel
theorem dX6_sheepPaid_17 : decode cX6_sheepPaid 17 = .ok (.isub, 1) := by decide +kernel
theorem dX6_sheepPaid_18 : decode cX6_sheepPaid 18 = .ok (.istore_n 2, 1) := by decide +kernel
theorem dX6_sheepPaid_19 : decode cX6_sheepPaid 19 = .ok (.iload_n 2, 1) := by decide +kernel
theorem dX6_sheepPaid_20 : decode cX6_sheepPaid 20 = .ok (.ifCond .gt 7, 3) := by decide +kernel
theorem dX6_sheepPaid_23 : decode cX6_sheepPaid 23 = .ok (.iconst 0, 1) := by decide +kernel
theorem dX6_sheepPaid_24 : decode cX6_sheepPaid 24 = .ok (.goto 18, 3) := by decide +kernel
theorem dX6_sheepPaid_27 : decode cX6_sheepPaid 27 = .ok (.iload_n 2, 1) := by decide +kernel
theorem dX6_sheepPaid_28 : decode cX6_sheepPaid 28 = .ok (.aload_n 0, 1) := by decide +kernel
theorem dX6_sheepPaid_29 : decode cX6_sheepPaid 29 = .ok (.iload_n 1, 1) := by decide +kernel
theorem dX6_sheepPaid_30 : decode cX6_sheepPaid 30 = .ok (.invokevirtual 78, 3) := by decide +kernel
theorem dX6_sheepPaid_33 : decode cX6_sheepPaid 33 = .ok (.iadd, 1) := by decide +kernel
theorem dX6_sheepPaid_34 : decode cX6_sheepPaid 34 = .ok (.iconst 1, 1) := by decide +kernel
theorem dX6_sheepPaid_35 : decode cX6_sheepPaid 35 = .ok (.isub, 1) := by decide +kernel
theorem dX6_sheepPaid_36 : decode cX6_sheepPaid 36 = .ok (.aload_n 0, 1) := by decide +kernel
theorem dX6_sheepPaid_37 : decode cX6_sheepPaid 37 = .ok (.iload_n 1, 1) := by decide +kernel
theorem dX6_sheepPaid_38 : decode cX6_sheepPaid 38 = .ok (.invokevirtual 78, 3) := by decide +kernel
theorem dX6_sheepPaid_41 : decode cX6_sheepPaid 41 = .ok (.idiv, 1) := by decide +kernel
theorem dX6_sheepPaid_42 : decode cX6_sheepPaid 42 = .ok (.istore_n 3, 1) := by decide +kernel
theorem dX6_sheepPaid_43 : decode cX6_sheepPaid 43 = .ok (.iload_n 3, 1) := by decide +kernel
theorem dX6_sheepPaid_44 : decode cX6_sheepPaid 44 = .ok (.aload_n 0, 1) := by decide +kernel
theorem dX6_sheepPaid_45 : decode cX6_sheepPaid 45 = .ok (.iload_n 1, 1) := by decide +kernel
theorem dX6_sheepPaid_46 : decode cX6_sheepPaid 46 = .ok (.iconst 3, 1) := by decide +kernel
theorem dX6_sheepPaid_47 : decode cX6_sheepPaid 47 = .ok (.invokevirtual 44, 3) := by decide +kernel
theorem dX6_sheepPaid_50 : decode cX6_sheepPaid 50 = .ok (.if_icmp .ge 7, 3) := by decide +kernel
theorem dX6_sheepPaid_53 : decode cX6_sheepPaid 53 = .ok (.iload_n 3, 1) := by decide +kernel
theorem dX6_sheepPaid_54 : decode cX6_sheepPaid 54 = .ok (.goto 9, 3) := by decide +kernel
theorem dX6_sheepPaid_57 : decode cX6_sheepPaid 57 = .ok (.aload_n 0, 1) := by decide +kernel
theorem dX6_sheepPaid_58 : decode cX6_sheepPaid 58 = .ok (.iload_n 1, 1) := by decide +kernel
theorem dX6_sheepPaid_59 : decode cX6_sheepPaid 59 = .ok (.iconst 3, 1) := by decide +kernel
theorem dX6_sheepPaid_60 : decode cX6_sheepPaid 60 = .ok (.invokevirtual 44, 3) := by decide +kernel
theorem dX6_sheepPaid_63 : decode cX6_sheepPaid 63 = .ok (.ireturn, 1) := by decide +kernel
theorem dX6_missingOf_0 : decode cX6_missingOf 0 = .ok (.aload_n 0, 1) := by decide +kernel
theorem dX6_missingOf_1 : decode cX6_missingOf 1 = .ok (.iload_n 1, 1) := by decide +kernel
theorem dX6_missingOf_2 : decode cX6_missingOf 2 = .ok (.invokevirtual 72, 3) := by decide +kernel
theorem dX6_missingOf_5 : decode cX6_missingOf 5 = .ok (.aload_n 0, 1) := by decide +kernel
theorem dX6_missingOf_6 : decode cX6_missingOf 6 = .ok (.iload_n 1, 1) := by decide +kernel
theorem dX6_missingOf_7 : decode cX6_missingOf 7 = .ok (.iconst 4, 1) := by decide +kernel
theorem dX6_missingOf_8 : decode cX6_missingOf 8 = .ok (.invokevirtual 44, 3) := by decide +kernel
theorem dX6_missingOf_11 : decode cX6_missingOf 11 = .ok (.isub, 1) := by decide +kernel
theorem dX6_missingOf_12 : decode cX6_missingOf 12 = .ok (.aload_n 0, 1) := by decide +kernel
theorem dX6_missingOf_13 : decode cX6_missingOf 13 = .ok (.iload_n 1, 1) := by decide +kernel
theorem dX6_missingOf_14 : decode cX6_missingOf 14 = .ok (.invokevirtual 75, 3) := by decide +kernel
theorem dX6_missingOf_17 : decode cX6_missingOf 17 = .ok (.isub, 1) := by decide +kernel
theorem dX6_missingOf_18 : decode cX6_missingOf 18 = .ok (.aload_n 0, 1) := by decide +kernel
theorem dX6_missingOf_19 : decode cX6_missingOf 19 = .ok (.iload_n 1, 1) := by decide +kernel
theorem dX6_missingOf_20 : decode cX6_missingOf 20 = .ok (.invokevirtual 78, 3) := by decide +kernel
theorem dX6_missingOf_23 : decode cX6_missingOf 23 = .ok (.aload_n 0, 1) := by decide +kernel
theorem dX6_missingOf_24 : decode cX6_missingOf 24 = .ok (.iload_n 1, 1) := by decide +kernel
theorem dX6_missingOf_25 : decode cX6_missingOf 25 = .ok (.invokevirtual 81, 3) := by decide +kernel
theorem dX6_missingOf_28 : decode cX6_missingOf 28 = .ok (.imul, 1) := by decide +kernel
theorem dX6_missingOf_29 : decode cX6_missingOf 29 = .ok (.isub, 1) := by decide +kernel
theorem dX6_missingOf_30 : decode cX6_missingOf 30 = .ok (.istore_n 2, 1) := by decide +kernel
theorem dX6_missingOf_31 : decode cX6_missingOf 31 = .ok (.iload_n 2, 1) := by decide +kernel
theorem dX6_missingOf_32 : decode cX6_missingOf 32 = .ok (.ifCond .ge 7, 3) := by decide +kernel
theorem dX6_missingOf_35 : decode cX6_missingOf 35 = .ok (.iconst 0, 1) := by decide +kernel
theorem dX6_missingOf_36 : decode cX6_missingOf 36 = .ok (.goto 4, 3) := by decide +kernel
theorem dX6_missingOf_39 : decode cX6_missingOf 39 = .ok (.iload_n 2, 1) := by decide +kernel
theorem dX6_missingOf_40 : decode cX6_missingOf 40 = .ok (.ireturn, 1) := by decide +kernel
theorem dX6_endsFor_0 : decode cX6_endsFor 0 = .ok (.aload_n 0, 1) := by decide +kernel
theorem dX6_endsFor_1 : decode cX6_endsFor 1 = .ok (.getfield 7, 3) := by decide +kernel
theorem dX6_endsFor_4 : decode cX6_endsFor 4 = .ok (.iconst 2, 1) := by decide +kernel
theorem dX6_endsFor_5 : decode cX6_endsFor 5 = .ok (.iaload, 1) := by decide +kernel
theorem dX6_endsFor_6 : decode cX6_endsFor 6 = .ok (.iconst 2, 1) := by decide +kernel
theorem dX6_endsFor_7 : decode cX6_endsFor 7 = .ok (.irem, 1) := by decide +kernel
theorem dX6_endsFor_8 : decode cX6_endsFor 8 = .ok (.ifCond .eq 18, 3) := by decide +kernel
theorem dX6_endsFor_11 : decode cX6_endsFor 11 = .ok (.aload_n 0, 1) := by decide +kernel
theorem dX6_endsFor_12 : decode cX6_endsFor 12 = .ok (.getfield 7, 3) := by decide +kernel
theorem dX6_endsFor_15 : decode cX6_endsFor 15 = .ok (.iconst 2, 1) := by decide +kernel
theorem dX6_endsFor_16 : decode cX6_endsFor 16 = .ok (.iaload, 1) := by decide +kernel
theorem dX6_endsFor_17 : decode cX6_endsFor 17 = .ok (.aload_n 0, 1) := by decide +kernel
theorem dX6_endsFor_18 : decode cX6_endsFor 18 = .ok (.getfield 7, 3) := by decide +kernel
theorem dX6_endsFor_21 : decode cX6_endsFor 21 = .ok (.iconst 1, 1) := by decide +kernel
theorem dX6_endsFor_22 : decode cX6_endsFor 22 = .ok (.iaload, 1) := by decide +kernel
theorem dX6_endsFor_23 : decode cX6_endsFor 23 = .ok (.if_icmp .ne 107, 3) := by decide +kernel
theorem dX6_endsFor_26 : decode cX6_endsFor 26 = .ok (.aload_n 0, 1) := by decide +kernel
theorem dX6_endsFor_27 : decode cX6_endsFor 27 = .ok (.iload_n 1, 1) := by decide +kernel
theorem dX6_endsFor_28 : decode cX6_endsFor 28 = .ok (.invokevirtual 75, 3) := by decide +kernel
theorem dX6_endsFor_31 : decode cX6_endsFor 31 = .ok (.istore_n 2, 1) := by decide +kernel
theorem dX6_endsFor_32 : decode cX6_endsFor 32 = .ok (.aload_n 0, 1) := by decide +kernel
theorem dX6_endsFor_33 : decode cX6_endsFor 33 = .ok (.iload_n 1, 1) := by decide +kernel
theorem dX6_endsFor_34 : decode cX6_endsFor 34 = .ok (.invokevirtual 81, 3) := by decide +kernel
theorem dX6_endsFor_37 : decode cX6_endsFor 37 = .ok (.istore_n 3, 1) := by decide +kernel
theorem dX6_endsFor_38 : decode cX6_endsFor 38 = .ok (.aload_n 0, 1) := by decide +kernel
theorem dX6_endsFor_39 : decode cX6_endsFor 39 = .ok (.iload_n 1, 1) := by decide +kernel
theorem dX6_endsFor_40 : decode cX6_endsFor 40 = .ok (.invokevirtual 84, 3) := by decide +kernel
theorem dX6_endsFor_43 : decode cX6_endsFor 43 = .ok (.istore 4, 2) := by decide +kernel
theorem dX6_endsFor_45 : decode cX6_endsFor 45 = .ok (.aload_n 0, 1) := by decide +kernel
theorem dX6_endsFor_46 : decode cX6_endsFor 46 = .ok (.iload_n 1, 1) := by decide +kernel
theorem dX6_endsFor_47 : decode cX6_endsFor 47 = .ok (.iconst 4, 1) := by decide +kernel
theorem dX6_endsFor_48 : decode cX6_endsFor 48 = .ok (.invokevirtual 44, 3) := by decide +kernel
theorem dX6_endsFor_51 : decode cX6_endsFor 51 = .ok (.iload_n 2, 1) := by decide +kernel
theorem dX6_endsFor_52 : decode cX6_endsFor 52 = .ok (.iadd, 1) := by decide +kernel
theorem dX6_endsFor_53 : decode cX6_endsFor 53 = .ok (.aload_n 0, 1) := by decide +kernel
theorem dX6_endsFor_54 : decode cX6_endsFor 54 = .ok (.iload_n 1, 1) := by decide +kernel
theorem dX6_endsFor_55 : decode cX6_endsFor 55 = .ok (.invokevirtual 78, 3) := by decide +kernel
theorem dX6_endsFor_58 : decode cX6_endsFor 58 = .ok (.iload_n 3, 1) := by decide +kernel
theorem dX6_endsFor_59 : decode cX6_endsFor 59 = .ok (.imul, 1) := by decide +kernel
theorem dX6_endsFor_60 : decode cX6_endsFor 60 = .ok (.iadd, 1) := by decide +kernel
theorem dX6_endsFor_61 : decode cX6_endsFor 61 = .ok (.iload 4, 2) := by decide +kernel
theorem dX6_endsFor_63 : decode cX6_endsFor 63 = .ok (.iadd, 1) := by decide +kernel
theorem dX6_endsFor_64 : decode cX6_endsFor 64 = .ok (.aload_n 0, 1) := by decide +kernel
theorem dX6_endsFor_65 : decode cX6_endsFor 65 = .ok (.iload_n 1, 1) := by decide +kernel
theorem dX6_endsFor_66 : decode cX6_endsFor 66 = .ok (.invokevirtual 72, 3) := by decide +kernel
theorem dX6_endsFor_69 : decode cX6_endsFor 69 = .ok (.isub, 1) := by decide +kernel
theorem dX6_endsFor_70 : decode cX6_endsFor 70 = .ok (.istore 5, 2) := by decide +kernel
theorem dX6_endsFor_72 : decode cX6_endsFor 72 = .ok (.aload_n 0, 1) := by decide +kernel
theorem dX6_endsFor_73 : decode cX6_endsFor 73 = .ok (.iload_n 1, 1) := by decide +kernel
theorem dX6_endsFor_74 : decode cX6_endsFor 74 = .ok (.bipush 9, 2) := by decide +kernel
theorem dX6_endsFor_76 : decode cX6_endsFor 76 = .ok (.iload 4, 2) := by decide +kernel
theorem dX6_endsFor_78 : decode cX6_endsFor 78 = .ok (.invokevirtual 68, 3) := by decide +kernel
theorem dX6_endsFor_81 : decode cX6_endsFor 81 = .ok (.aload_n 0, 1) := by decide +kernel
theorem dX6_endsFor_82 : decode cX6_endsFor 82 = .ok (.iload_n 1, 1) := by decide +kernel
theorem dX6_endsFor_83 : decode cX6_endsFor 83 = .ok (.iconst 2, 1) := by decide +kernel
theorem dX6_endsFor_84 : decode cX6_endsFor 84 = .ok (.iload_n 2, 1) := by decide +kernel
theorem dX6_endsFor_85 : decode cX6_endsFor 85 = .ok (.ineg, 1) := by decide +kernel
theorem dX6_endsFor_86 : decode cX6_endsFor 86 = .ok (.invokevirtual 68, 3) := by decide +kernel
theorem dX6_endsFor_89 : decode cX6_endsFor 89 = .ok (.aload_n 0, 1) := by decide +kernel
theorem dX6_endsFor_90 : decode cX6_endsFor 90 = .ok (.iload_n 1, 1) := by decide +kernel
theorem dX6_endsFor_91 : decode cX6_endsFor 91 = .ok (.iconst 3, 1) := by decide +kernel
theorem dX6_endsFor_92 : decode cX6_endsFor 92 = .ok (.iload_n 3, 1) := by decide +kernel
theorem dX6_endsFor_93 : decode cX6_endsFor 93 = .ok (.ineg, 1) := by decide +kernel
theorem dX6_endsFor_94 : decode cX6_endsFor 94 = .ok (.invokevirtual 68, 3) := by decide +kernel
theorem dX6_endsFor_97 : decode cX6_endsFor 97 = .ok (.aload_n 0, 1) := by decide +kernel
theorem dX6_endsFor_98 : decode cX6_endsFor 98 = .ok (.getfield 7, 3) := by decide +kernel
theorem dX6_endsFor_101 : decode cX6_endsFor 101 = .ok (.iload_n 1, 1) := by decide +kernel
theorem dX6_endsFor_102 : decode cX6_endsFor 102 = .ok (.iconst 4, 1) := by decide +kernel
theorem dX6_endsFor_103 : decode cX6_endsFor 103 = .ok (.invokestatic 40, 3) := by decide +kernel
theorem dX6_endsFor_106 : decode cX6_endsFor 106 = .ok (.iload 5, 2) := by decide +kernel
theorem dX6_endsFor_108 : decode cX6_endsFor 108 = .ok (.iastore, 1) := by decide +kernel
theorem dX6_endsFor_109 : decode cX6_endsFor 109 = .ok (.aload_n 0, 1) := by decide +kernel
theorem dX6_endsFor_110 : decode cX6_endsFor 110 = .ok (.iload_n 1, 1) := by decide +kernel
theorem dX6_endsFor_111 : decode cX6_endsFor 111 = .ok (.iconst 3, 1) := by decide +kernel
theorem dX6_endsFor_112 : decode cX6_endsFor 112 = .ok (.aload_n 0, 1) := by decide +kernel
theorem dX6_endsFor_113 : decode cX6_endsFor 113 = .ok (.iload_n 1, 1) := by decide +kernel
theorem dX6_endsFor_114 : decode cX6_endsFor 114 = .ok (.iconst 3, 1) := by decide +kernel
theorem dX6_endsFor_115 : decode cX6_endsFor 115 = .ok (.invokevirtual 44, 3) := by decide +kernel
theorem dX6_endsFor_118 : decode cX6_endsFor 118 = .ok (.iconst 1, 1) := by decide +kernel
theorem dX6_endsFor_119 : decode cX6_endsFor 119 = .ok (.if_icmp .le 7, 3) := by decide +kernel
theorem dX6_endsFor_122 : decode cX6_endsFor 122 = .ok (.iconst 1, 1) := by decide +kernel
theorem dX6_endsFor_123 : decode cX6_endsFor 123 = .ok (.goto 4, 3) := by decide +kernel
theorem dX6_endsFor_126 : decode cX6_endsFor 126 = .ok (.iconst 0, 1) := by decide +kernel
theorem dX6_endsFor_127 : decode cX6_endsFor 127 = .ok (.invokevirtual 68, 3) := by decide +kernel
theorem dX6_endsFor_130 : decode cX6_endsFor 130 = .ok (.aload_n 0, 1) := by decide +kernel
theorem dX6_endsFor_131 : decode cX6_endsFor 131 = .ok (.iload_n 1, 1) := by decide +kernel
theorem dX6_endsFor_132 : decode cX6_endsFor 132 = .ok (.iconst 2, 1) := by decide +kernel
theorem dX6_endsFor_133 : decode cX6_endsFor 133 = .ok (.invokevirtual 44, 3) := by decide +kernel
theorem dX6_endsFor_136 : decode cX6_endsFor 136 = .ok (.iconst 3, 1) := by decide +kernel
theorem dX6_endsFor_137 : decode cX6_endsFor 137 = .ok (.if_icmp .le 23, 3) := by decide +kernel
theorem dX6_endsFor_140 : decode cX6_endsFor 140 = .ok (.aload_n 0, 1) := by decide +kernel
theorem dX6_endsFor_141 : decode cX6_endsFor 141 = .ok (.iload_n 1, 1) := by decide +kernel
theorem dX6_endsFor_142 : decode cX6_endsFor 142 = .ok (.iconst 2, 1) := by decide +kernel
theorem dX6_endsFor_143 : decode cX6_endsFor 143 = .ok (.invokevirtual 51, 3) := by decide +kernel
theorem dX6_endsFor_146 : decode cX6_endsFor 146 = .ok (.ifCond .ne 14, 3) := by decide +kernel
theorem dX6_endsFor_149 : decode cX6_endsFor 149 = .ok (.aload_n 0, 1) := by decide +kernel
theorem dX6_endsFor_150 : decode cX6_endsFor 150 = .ok (.getfield 7, 3) := by decide +kernel
theorem dX6_endsFor_153 : decode cX6_endsFor 153 = .ok (.iload_n 1, 1) := by decide +kernel
theorem dX6_endsFor_154 : decode cX6_endsFor 154 = .ok (.iconst 2, 1) := by decide +kernel
theorem dX6_endsFor_155 : decode cX6_endsFor 155 = .ok (.invokestatic 40, 3) := by decide +kernel
theorem dX6_endsFor_158 : decode cX6_endsFor 158 = .ok (.iconst 3, 1) := by decide +kernel
theorem dX6_endsFor_159 : decode cX6_endsFor 159 = .ok (.iastore, 1) := by decide +kernel
theorem dX6_endsFor_160 : decode cX6_endsFor 160 = .ok (.return_, 1) := by decide +kernel
theorem dX6_scoreOf_0 : decode cX6_scoreOf 0 = .ok (.iload_n 2, 1) := by decide +kernel
theorem dX6_scoreOf_1 : decode cX6_scoreOf 1 = .ok (.tableswitch 124 0 4 #[35, 44, 52, 73, 82], 35) := by decide +kernel
theorem dX6_scoreOf_36 : decode cX6_scoreOf 36 = .ok (.iconst 3, 1) := by decide +kernel
theorem dX6_scoreOf_37 : decode cX6_scoreOf 37 = .ok (.aload_n 0, 1) := by decide +kernel
theorem dX6_scoreOf_38 : decode cX6_scoreOf 38 = .ok (.iload_n 1, 1) := by decide +kernel
theorem dX6_scoreOf_39 : decode cX6_scoreOf 39 = .ok (.iconst 5, 1) := by decide +kernel
theorem dX6_scoreOf_40 : decode cX6_scoreOf 40 = .ok (.invokevirtual 44, 3) := by decide +kernel
theorem dX6_scoreOf_43 : decode cX6_scoreOf 43 = .ok (.imul, 1) := by decide +kernel
theorem dX6_scoreOf_44 : decode cX6_scoreOf 44 = .ok (.ireturn, 1) := by decide +kernel
theorem dX6_scoreOf_45 : decode cX6_scoreOf 45 = .ok (.aload_n 0, 1) := by decide +kernel
theorem dX6_scoreOf_46 : decode cX6_scoreOf 46 = .ok (.iload_n 1, 1) := by decide +kernel
theorem dX6_scoreOf_47 : decode cX6_scoreOf 47 = .ok (.bipush 8, 2) := by decide +kernel
theorem dX6_scoreOf_49 : decode cX6_scoreOf 49 = .ok (.invokevirtual 44, 3) := by decide +kernel
theorem dX6_scoreOf_52 : decode cX6_scoreOf 52 = .ok (.ireturn, 1) := by decide +kernel
theorem dX6_scoreOf_53 : decode cX6_scoreOf 53 = .ok (.aload_n 0, 1) := by decide +kernel
theorem dX6_scoreOf_54 : decode cX6_scoreOf 54 = .ok (.iload_n 1, 1) := by decide +kernel
theorem dX6_scoreOf_55 : decode cX6_scoreOf 55 = .ok (.iconst 3, 1) := by decide +kernel
theorem dX6_scoreOf_56 : decode cX6_scoreOf 56 = .ok (.invokevirtual 44, 3) := by decide +kernel
theorem dX6_scoreOf_59 : decode cX6_scoreOf 59 = .ok (.iconst 5, 1) := by decide +kernel
theorem dX6_scoreOf_60 : decode cX6_scoreOf 60 = .ok (.if_icmp .ge 12, 3) := by decide +kernel
theorem dX6_scoreOf_63 : decode cX6_scoreOf 63 = .ok (.aload_n 0, 1) := by decide +kernel
theorem dX6_scoreOf_64 : decode cX6_scoreOf 64 = .ok (.iload_n 1, 1) := by decide +kernel
theorem dX6_scoreOf_65 : decode cX6_scoreOf 65 = .ok (.iconst 3, 1) := by decide +kernel
theorem dX6_scoreOf_66 : decode cX6_scoreOf 66 = .ok (.invokevirtual 44, 3) := by decide +kernel
theorem dX6_scoreOf_69 : decode cX6_scoreOf 69 = .ok (.goto 4, 3) := by decide +kernel
theorem dX6_scoreOf_72 : decode cX6_scoreOf 72 = .ok (.iconst 5, 1) := by decide +kernel
theorem dX6_scoreOf_73 : decode cX6_scoreOf 73 = .ok (.ireturn, 1) := by decide +kernel
theorem dX6_scoreOf_74 : decode cX6_scoreOf 74 = .ok (.aload_n 0, 1) := by decide +kernel
theorem dX6_scoreOf_75 : decode cX6_scoreOf 75 = .ok (.iload_n 1, 1) := by decide +kernel
theorem dX6_scoreOf_76 : decode cX6_scoreOf 76 = .ok (.iconst 2, 1) := by decide +kernel
theorem dX6_scoreOf_77 : decode cX6_scoreOf 77 = .ok (.invokevirtual 44, 3) := by decide +kernel
theorem dX6_scoreOf_80 : decode cX6_scoreOf 80 = .ok (.iconst 2, 1) := by decide +kernel
theorem dX6_scoreOf_81 : decode cX6_scoreOf 81 = .ok (.idiv, 1) := by decide +kernel
theorem dX6_scoreOf_82 : decode cX6_scoreOf 82 = .ok (.ireturn, 1) := by decide +kernel
theorem dX6_scoreOf_83 : decode cX6_scoreOf 83 = .ok (.iconst 0, 1) := by decide +kernel
theorem dX6_scoreOf_84 : decode cX6_scoreOf 84 = .ok (.istore_n 3, 1) := by decide +kernel
theorem dX6_scoreOf_85 : decode cX6_scoreOf 85 = .ok (.iconst 0, 1) := by decide +kernel
theorem dX6_scoreOf_86 : decode cX6_scoreOf 86 = .ok (.istore 4, 2) := by decide +kernel
theorem dX6_scoreOf_88 : decode cX6_scoreOf 88 = .ok (.iload 4, 2) := by decide +kernel
theorem dX6_scoreOf_90 : decode cX6_scoreOf 90 = .ok (.bipush 8, 2) := by decide +kernel
theorem dX6_scoreOf_92 : decode cX6_scoreOf 92 = .ok (.if_icmp .ge 31, 3) := by decide +kernel
theorem dX6_scoreOf_95 : decode cX6_scoreOf 95 = .ok (.iload_n 3, 1) := by decide +kernel
theorem dX6_scoreOf_96 : decode cX6_scoreOf 96 = .ok (.aload_n 0, 1) := by decide +kernel
theorem dX6_scoreOf_97 : decode cX6_scoreOf 97 = .ok (.iload_n 1, 1) := by decide +kernel
theorem dX6_scoreOf_98 : decode cX6_scoreOf 98 = .ok (.iload 4, 2) := by decide +kernel
theorem dX6_scoreOf_100 : decode cX6_scoreOf 100 = .ok (.invokevirtual 51, 3) := by decide +kernel
theorem dX6_scoreOf_103 : decode cX6_scoreOf 103 = .ok (.ifCond .eq 11, 3) := by decide +kernel
theorem dX6_scoreOf_106 : decode cX6_scoreOf 106 = .ok (.iload 4, 2) := by decide +kernel
theorem dX6_scoreOf_108 : decode cX6_scoreOf 108 = .ok (.invokestatic 87, 3) := by decide +kernel
theorem dX6_scoreOf_111 : decode cX6_scoreOf 111 = .ok (.goto 4, 3) := by decide +kernel
theorem dX6_scoreOf_114 : decode cX6_scoreOf 114 = .ok (.iconst 0, 1) := by decide +kernel
theorem dX6_scoreOf_115 : decode cX6_scoreOf 115 = .ok (.iadd, 1) := by decide +kernel
theorem dX6_scoreOf_116 : decode cX6_scoreOf 116 = .ok (.istore_n 3, 1) := by decide +kernel
theorem dX6_scoreOf_117 : decode cX6_scoreOf 117 = .ok (.iinc 4 1, 3) := by decide +kernel
theorem dX6_scoreOf_120 : decode cX6_scoreOf 120 = .ok (.goto (-32), 3) := by decide +kernel
theorem dX6_scoreOf_123 : decode cX6_scoreOf 123 = .ok (.iload_n 3, 1) := by decide +kernel
theorem dX6_scoreOf_124 : decode cX6_scoreOf 124 = .ok (.ireturn, 1) := by decide +kernel
theorem dX6_scoreOf_125 : decode cX6_scoreOf 125 = .ok (.bipush (-3), 2) := by decide +kernel
theorem dX6_scoreOf_127 : decode cX6_scoreOf 127 = .ok (.aload_n 0, 1) := by decide +kernel
theorem dX6_scoreOf_128 : decode cX6_scoreOf 128 = .ok (.iload_n 1, 1) := by decide +kernel
theorem dX6_scoreOf_129 : decode cX6_scoreOf 129 = .ok (.bipush 9, 2) := by decide +kernel
theorem dX6_scoreOf_131 : decode cX6_scoreOf 131 = .ok (.invokevirtual 44, 3) := by decide +kernel
theorem dX6_scoreOf_134 : decode cX6_scoreOf 134 = .ok (.imul, 1) := by decide +kernel
theorem dX6_scoreOf_135 : decode cX6_scoreOf 135 = .ok (.ireturn, 1) := by decide +kernel
theorem dX6_isOver_0 : decode cX6_isOver 0 = .ok (.aload_n 0, 1) := by decide +kernel
theorem dX6_isOver_1 : decode cX6_isOver 1 = .ok (.getfield 7, 3) := by decide +kernel
theorem dX6_isOver_4 : decode cX6_isOver 4 = .ok (.iconst 2, 1) := by decide +kernel
theorem dX6_isOver_5 : decode cX6_isOver 5 = .ok (.iaload, 1) := by decide +kernel
theorem dX6_isOver_6 : decode cX6_isOver 6 = .ok (.aload_n 0, 1) := by decide +kernel
theorem dX6_isOver_7 : decode cX6_isOver 7 = .ok (.getfield 7, 3) := by decide +kernel
theorem dX6_isOver_10 : decode cX6_isOver 10 = .ok (.iconst 1, 1) := by decide +kernel
theorem dX6_isOver_11 : decode cX6_isOver 11 = .ok (.iaload, 1) := by decide +kernel
theorem dX6_isOver_12 : decode cX6_isOver 12 = .ok (.if_icmp .le 7, 3) := by decide +kernel
theorem dX6_isOver_15 : decode cX6_isOver 15 = .ok (.iconst 1, 1) := by decide +kernel
theorem dX6_isOver_16 : decode cX6_isOver 16 = .ok (.goto 4, 3) := by decide +kernel
theorem dX6_isOver_19 : decode cX6_isOver 19 = .ok (.iconst 0, 1) := by decide +kernel
theorem dX6_isOver_20 : decode cX6_isOver 20 = .ok (.ireturn, 1) := by decide +kernel
theorem dX6_placesOf_0 : decode cX6_placesOf 0 = .ok (.iload_n 0, 1) := by decide +kernel
theorem dX6_placesOf_1 : decode cX6_placesOf 1 = .ok (.iconst 4, 1) := by decide +kernel
theorem dX6_placesOf_2 : decode cX6_placesOf 2 = .ok (.if_icmp .eq 15, 3) := by decide +kernel
theorem dX6_placesOf_5 : decode cX6_placesOf 5 = .ok (.iload_n 0, 1) := by decide +kernel
theorem dX6_placesOf_6 : decode cX6_placesOf 6 = .ok (.bipush 9, 2) := by decide +kernel
theorem dX6_placesOf_8 : decode cX6_placesOf 8 = .ok (.if_icmp .eq 9, 3) := by decide +kernel
theorem dX6_placesOf_11 : decode cX6_placesOf 11 = .ok (.iload_n 0, 1) := by decide +kernel
theorem dX6_placesOf_12 : decode cX6_placesOf 12 = .ok (.bipush 11, 2) := by decide +kernel
theorem dX6_placesOf_14 : decode cX6_placesOf 14 = .ok (.if_icmp .ne 7, 3) := by decide +kernel
theorem dX6_placesOf_17 : decode cX6_placesOf 17 = .ok (.iconst 2, 1) := by decide +kernel
theorem dX6_placesOf_18 : decode cX6_placesOf 18 = .ok (.goto 4, 3) := by decide +kernel
theorem dX6_placesOf_21 : decode cX6_placesOf 21 = .ok (.iconst 1, 1) := by decide +kernel
theorem dX6_placesOf_22 : decode cX6_placesOf 22 = .ok (.ireturn, 1) := by decide +kernel
theorem dX6_isChoice_0 : decode cX6_isChoice 0 = .ok (.iload_n 0, 1) := by decide +kernel
theorem dX6_isChoice_1 : decode cX6_isChoice 1 = .ok (.tableswitch 71 8 11 #[31, 38, 71, 46], 31) := by decide +kernel
theorem dX6_isChoice_32 : decode cX6_isChoice 32 = .ok (.iload_n 1, 1) := by decide +kernel
theorem dX6_isChoice_33 : decode cX6_isChoice 33 = .ok (.iconst 1, 1) := by decide +kernel
theorem dX6_isChoice_34 : decode cX6_isChoice 34 = .ok (.iconst 3, 1) := by decide +kernel
theorem dX6_isChoice_35 : decode cX6_isChoice 35 = .ok (.invokestatic 47, 3) := by decide +kernel
theorem dX6_isChoice_38 : decode cX6_isChoice 38 = .ok (.ireturn, 1) := by decide +kernel
theorem dX6_isChoice_39 : decode cX6_isChoice 39 = .ok (.iload_n 1, 1) := by decide +kernel
theorem dX6_isChoice_40 : decode cX6_isChoice 40 = .ok (.iconst 0, 1) := by decide +kernel
theorem dX6_isChoice_41 : decode cX6_isChoice 41 = .ok (.bipush 7, 2) := by decide +kernel
theorem dX6_isChoice_43 : decode cX6_isChoice 43 = .ok (.invokestatic 47, 3) := by decide +kernel
theorem dX6_isChoice_46 : decode cX6_isChoice 46 = .ok (.ireturn, 1) := by decide +kernel
theorem dX6_isChoice_47 : decode cX6_isChoice 47 = .ok (.iload_n 1, 1) := by decide +kernel
theorem dX6_isChoice_48 : decode cX6_isChoice 48 = .ok (.iconst 0, 1) := by decide +kernel
theorem dX6_isChoice_49 : decode cX6_isChoice 49 = .ok (.bipush 24, 2) := by decide +kernel
theorem dX6_isChoice_51 : decode cX6_isChoice 51 = .ok (.invokestatic 47, 3) := by decide +kernel
theorem dX6_isChoice_54 : decode cX6_isChoice 54 = .ok (.ifCond .eq 16, 3) := by decide +kernel
theorem dX6_isChoice_57 : decode cX6_isChoice 57 = .ok (.iload_n 1, 1) := by decide +kernel
theorem dX6_isChoice_58 : decode cX6_isChoice 58 = .ok (.iconst 5, 1) := by decide +kernel
theorem dX6_isChoice_59 : decode cX6_isChoice 59 = .ok (.idiv, 1) := by decide +kernel
theorem dX6_isChoice_60 : decode cX6_isChoice 60 = .ok (.iload_n 1, 1) := by decide +kernel
theorem dX6_isChoice_61 : decode cX6_isChoice 61 = .ok (.iconst 5, 1) := by decide +kernel
theorem dX6_isChoice_62 : decode cX6_isChoice 62 = .ok (.irem, 1) := by decide +kernel
theorem dX6_isChoice_63 : decode cX6_isChoice 63 = .ok (.if_icmp .eq 7, 3) := by decide +kernel
theorem dX6_isChoice_66 : decode cX6_isChoice 66 = .ok (.iconst 1, 1) := by decide +kernel
theorem dX6_isChoice_67 : decode cX6_isChoice 67 = .ok (.goto 4, 3) := by decide +kernel
theorem dX6_isChoice_70 : decode cX6_isChoice 70 = .ok (.iconst 0, 1) := by decide +kernel
theorem dX6_isChoice_71 : decode cX6_isChoice 71 = .ok (.ireturn, 1) := by decide +kernel
theorem dX6_isChoice_72 : decode cX6_isChoice 72 = .ok (.iload_n 1, 1) := by decide +kernel
theorem dX6_isChoice_73 : decode cX6_isChoice 73 = .ok (.ifCond .ne 7, 3) := by decide +kernel
theorem dX6_isChoice_76 : decode cX6_isChoice 76 = .ok (.iconst 1, 1) := by decide +kernel
theorem dX6_isChoice_77 : decode cX6_isChoice 77 = .ok (.goto 4, 3) := by decide +kernel
theorem dX6_isChoice_80 : decode cX6_isChoice 80 = .ok (.iconst 0, 1) := by decide +kernel
theorem dX6_isChoice_81 : decode cX6_isChoice 81 = .ok (.ireturn, 1) := by decide +kernel
theorem dX6_canPay_0 : decode cX6_canPay 0 = .ok (.aload_n 0, 1) := by decide +kernel
theorem dX6_canPay_1 : decode cX6_canPay 1 = .ok (.iload_n 1, 1) := by decide +kernel
theorem dX6_canPay_2 : decode cX6_canPay 2 = .ok (.iconst 0, 1) := by decide +kernel
theorem dX6_canPay_3 : decode cX6_canPay 3 = .ok (.invokevirtual 44, 3) := by decide +kernel
theorem dX6_canPay_6 : decode cX6_canPay 6 = .ok (.aload_n 0, 1) := by decide +kernel
theorem dX6_canPay_7 : decode cX6_canPay 7 = .ok (.iload_n 1, 1) := by decide +kernel
theorem dX6_canPay_8 : decode cX6_canPay 8 = .ok (.iload_n 2, 1) := by decide +kernel
theorem dX6_canPay_9 : decode cX6_canPay 9 = .ok (.iconst 0, 1) := by decide +kernel
theorem dX6_canPay_10 : decode cX6_canPay 10 = .ok (.invokevirtual 90, 3) := by decide +kernel
theorem dX6_canPay_13 : decode cX6_canPay 13 = .ok (.if_icmp .lt 23, 3) := by decide +kernel
theorem dX6_canPay_16 : decode cX6_canPay 16 = .ok (.aload_n 0, 1) := by decide +kernel
theorem dX6_canPay_17 : decode cX6_canPay 17 = .ok (.iload_n 1, 1) := by decide +kernel
theorem dX6_canPay_18 : decode cX6_canPay 18 = .ok (.iconst 1, 1) := by decide +kernel
theorem dX6_canPay_19 : decode cX6_canPay 19 = .ok (.invokevirtual 44, 3) := by decide +kernel
theorem dX6_canPay_22 : decode cX6_canPay 22 = .ok (.aload_n 0, 1) := by decide +kernel
theorem dX6_canPay_23 : decode cX6_canPay 23 = .ok (.iload_n 1, 1) := by decide +kernel
theorem dX6_canPay_24 : decode cX6_canPay 24 = .ok (.iload_n 2, 1) := by decide +kernel
theorem dX6_canPay_25 : decode cX6_canPay 25 = .ok (.iconst 1, 1) := by decide +kernel
theorem dX6_canPay_26 : decode cX6_canPay 26 = .ok (.invokevirtual 90, 3) := by decide +kernel
theorem dX6_canPay_29 : decode cX6_canPay 29 = .ok (.if_icmp .lt 7, 3) := by decide +kernel
theorem dX6_canPay_32 : decode cX6_canPay 32 = .ok (.iconst 1, 1) := by decide +kernel
theorem dX6_canPay_33 : decode cX6_canPay 33 = .ok (.goto 4, 3) := by decide +kernel
theorem dX6_canPay_36 : decode cX6_canPay 36 = .ok (.iconst 0, 1) := by decide +kernel
theorem dX6_canPay_37 : decode cX6_canPay 37 = .ok (.ireturn, 1) := by decide +kernel
theorem dX6_canAct_0 : decode cX6_canAct 0 = .ok (.iload_n 2, 1) := by decide +kernel
theorem dX6_canAct_1 : decode cX6_canAct 1 = .ok (.tableswitch 170 6 11 #[39, 65, 112, 128, 170, 152], 39) := by decide +kernel
theorem dX6_canAct_40 : decode cX6_canAct 40 = .ok (.aload_n 0, 1) := by decide +kernel
theorem dX6_canAct_41 : decode cX6_canAct 41 = .ok (.iload_n 1, 1) := by decide +kernel
theorem dX6_canAct_42 : decode cX6_canAct 42 = .ok (.bipush 8, 2) := by decide +kernel
theorem dX6_canAct_44 : decode cX6_canAct 44 = .ok (.invokevirtual 44, 3) := by decide +kernel
theorem dX6_canAct_47 : decode cX6_canAct 47 = .ok (.iconst 5, 1) := by decide +kernel
theorem dX6_canAct_48 : decode cX6_canAct 48 = .ok (.if_icmp .ge 16, 3) := by decide +kernel
theorem dX6_canAct_51 : decode cX6_canAct 51 = .ok (.aload_n 0, 1) := by decide +kernel
theorem dX6_canAct_52 : decode cX6_canAct 52 = .ok (.iload_n 1, 1) := by decide +kernel
theorem dX6_canAct_53 : decode cX6_canAct 53 = .ok (.iconst (-1), 1) := by decide +kernel
theorem dX6_canAct_54 : decode cX6_canAct 54 = .ok (.invokevirtual 94, 3) := by decide +kernel
theorem dX6_canAct_57 : decode cX6_canAct 57 = .ok (.ifCond .eq 7, 3) := by decide +kernel
theorem dX6_canAct_60 : decode cX6_canAct 60 = .ok (.iconst 1, 1) := by decide +kernel
theorem dX6_canAct_61 : decode cX6_canAct 61 = .ok (.goto 4, 3) := by decide +kernel
theorem dX6_canAct_64 : decode cX6_canAct 64 = .ok (.iconst 0, 1) := by decide +kernel
theorem dX6_canAct_65 : decode cX6_canAct 65 = .ok (.ireturn, 1) := by decide +kernel
theorem dX6_canAct_66 : decode cX6_canAct 66 = .ok (.aload_n 0, 1) := by decide +kernel
theorem dX6_canAct_67 : decode cX6_canAct 67 = .ok (.iload_n 1, 1) := by decide +kernel
theorem dX6_canAct_68 : decode cX6_canAct 68 = .ok (.iconst 5, 1) := by decide +kernel
theorem dX6_canAct_69 : decode cX6_canAct 69 = .ok (.invokevirtual 44, 3) := by decide +kernel
theorem dX6_canAct_72 : decode cX6_canAct 72 = .ok (.iconst 5, 1) := by decide +kernel
theorem dX6_canAct_73 : decode cX6_canAct 73 = .ok (.if_icmp .ge 38, 3) := by decide +kernel
theorem dX6_canAct_76 : decode cX6_canAct 76 = .ok (.aload_n 0, 1) := by decide +kernel
theorem dX6_canAct_77 : decode cX6_canAct 77 = .ok (.iload_n 1, 1) := by decide +kernel
theorem dX6_canAct_78 : decode cX6_canAct 78 = .ok (.iconst 5, 1) := by decide +kernel
theorem dX6_canAct_79 : decode cX6_canAct 79 = .ok (.invokevirtual 44, 3) := by decide +kernel
theorem dX6_canAct_82 : decode cX6_canAct 82 = .ok (.aload_n 0, 1) := by decide +kernel
theorem dX6_canAct_83 : decode cX6_canAct 83 = .ok (.iload_n 1, 1) := by decide +kernel
theorem dX6_canAct_84 : decode cX6_canAct 84 = .ok (.bipush 8, 2) := by decide +kernel
theorem dX6_canAct_86 : decode cX6_canAct 86 = .ok (.invokevirtual 44, 3) := by decide +kernel
theorem dX6_canAct_89 : decode cX6_canAct 89 = .ok (.aload_n 0, 1) := by decide +kernel
theorem dX6_canAct_90 : decode cX6_canAct 90 = .ok (.iload_n 1, 1) := by decide +kernel
theorem dX6_canAct_91 : decode cX6_canAct 91 = .ok (.iconst 4, 1) := by decide +kernel
theorem dX6_canAct_92 : decode cX6_canAct 92 = .ok (.invokevirtual 51, 3) := by decide +kernel
theorem dX6_canAct_95 : decode cX6_canAct 95 = .ok (.ifCond .eq 7, 3) := by decide +kernel
theorem dX6_canAct_98 : decode cX6_canAct 98 = .ok (.iconst 1, 1) := by decide +kernel
theorem dX6_canAct_99 : decode cX6_canAct 99 = .ok (.goto 4, 3) := by decide +kernel
theorem dX6_canAct_102 : decode cX6_canAct 102 = .ok (.iconst 0, 1) := by decide +kernel
theorem dX6_canAct_103 : decode cX6_canAct 103 = .ok (.iadd, 1) := by decide +kernel
theorem dX6_canAct_104 : decode cX6_canAct 104 = .ok (.if_icmp .ge 7, 3) := by decide +kernel
theorem dX6_canAct_107 : decode cX6_canAct 107 = .ok (.iconst 1, 1) := by decide +kernel
theorem dX6_canAct_108 : decode cX6_canAct 108 = .ok (.goto 4, 3) := by decide +kernel
theorem dX6_canAct_111 : decode cX6_canAct 111 = .ok (.iconst 0, 1) := by decide +kernel
theorem dX6_canAct_112 : decode cX6_canAct 112 = .ok (.ireturn, 1) := by decide +kernel
theorem dX6_canAct_113 : decode cX6_canAct 113 = .ok (.aload_n 0, 1) := by decide +kernel
theorem dX6_canAct_114 : decode cX6_canAct 114 = .ok (.iload_n 1, 1) := by decide +kernel
theorem dX6_canAct_115 : decode cX6_canAct 115 = .ok (.iconst 2, 1) := by decide +kernel
theorem dX6_canAct_116 : decode cX6_canAct 116 = .ok (.invokevirtual 44, 3) := by decide +kernel
theorem dX6_canAct_119 : decode cX6_canAct 119 = .ok (.iload_n 3, 1) := by decide +kernel
theorem dX6_canAct_120 : decode cX6_canAct 120 = .ok (.if_icmp .lt 7, 3) := by decide +kernel
theorem dX6_canAct_123 : decode cX6_canAct 123 = .ok (.iconst 1, 1) := by decide +kernel
theorem dX6_canAct_124 : decode cX6_canAct 124 = .ok (.goto 4, 3) := by decide +kernel
theorem dX6_canAct_127 : decode cX6_canAct 127 = .ok (.iconst 0, 1) := by decide +kernel
theorem dX6_canAct_128 : decode cX6_canAct 128 = .ok (.ireturn, 1) := by decide +kernel
theorem dX6_canAct_129 : decode cX6_canAct 129 = .ok (.aload_n 0, 1) := by decide +kernel
theorem dX6_canAct_130 : decode cX6_canAct 130 = .ok (.iload_n 3, 1) := by decide +kernel
theorem dX6_canAct_131 : decode cX6_canAct 131 = .ok (.invokevirtual 97, 3) := by decide +kernel
theorem dX6_canAct_134 : decode cX6_canAct 134 = .ok (.iconst (-1), 1) := by decide +kernel
theorem dX6_canAct_135 : decode cX6_canAct 135 = .ok (.if_icmp .ne 16, 3) := by decide +kernel
theorem dX6_canAct_138 : decode cX6_canAct 138 = .ok (.aload_n 0, 1) := by decide +kernel
theorem dX6_canAct_139 : decode cX6_canAct 139 = .ok (.iload_n 1, 1) := by decide +kernel
theorem dX6_canAct_140 : decode cX6_canAct 140 = .ok (.iload_n 3, 1) := by decide +kernel
theorem dX6_canAct_141 : decode cX6_canAct 141 = .ok (.invokevirtual 94, 3) := by decide +kernel
theorem dX6_canAct_144 : decode cX6_canAct 144 = .ok (.ifCond .eq 7, 3) := by decide +kernel
theorem dX6_canAct_147 : decode cX6_canAct 147 = .ok (.iconst 1, 1) := by decide +kernel
theorem dX6_canAct_148 : decode cX6_canAct 148 = .ok (.goto 4, 3) := by decide +kernel
theorem dX6_canAct_151 : decode cX6_canAct 151 = .ok (.iconst 0, 1) := by decide +kernel
theorem dX6_canAct_152 : decode cX6_canAct 152 = .ok (.ireturn, 1) := by decide +kernel
theorem dX6_canAct_153 : decode cX6_canAct 153 = .ok (.aload_n 0, 1) := by decide +kernel
theorem dX6_canAct_154 : decode cX6_canAct 154 = .ok (.iload_n 1, 1) := by decide +kernel
theorem dX6_canAct_155 : decode cX6_canAct 155 = .ok (.iload_n 3, 1) := by decide +kernel
theorem dX6_canAct_156 : decode cX6_canAct 156 = .ok (.iconst 5, 1) := by decide +kernel
theorem dX6_canAct_157 : decode cX6_canAct 157 = .ok (.idiv, 1) := by decide +kernel
theorem dX6_canAct_158 : decode cX6_canAct 158 = .ok (.invokevirtual 44, 3) := by decide +kernel
theorem dX6_canAct_161 : decode cX6_canAct 161 = .ok (.iconst 2, 1) := by decide +kernel
theorem dX6_canAct_162 : decode cX6_canAct 162 = .ok (.if_icmp .lt 7, 3) := by decide +kernel
theorem dX6_canAct_165 : decode cX6_canAct 165 = .ok (.iconst 1, 1) := by decide +kernel
theorem dX6_canAct_166 : decode cX6_canAct 166 = .ok (.goto 4, 3) := by decide +kernel
theorem dX6_canAct_169 : decode cX6_canAct 169 = .ok (.iconst 0, 1) := by decide +kernel
theorem dX6_canAct_170 : decode cX6_canAct 170 = .ok (.ireturn, 1) := by decide +kernel
theorem dX6_canAct_171 : decode cX6_canAct 171 = .ok (.iconst 1, 1) := by decide +kernel
theorem dX6_canAct_172 : decode cX6_canAct 172 = .ok (.ireturn, 1) := by decide +kernel
theorem dX6_why_0 : decode cX6_why 0 = .ok (.aload_n 0, 1) := by decide +kernel
theorem dX6_why_1 : decode cX6_why 1 = .ok (.invokevirtual 100, 3) := by decide +kernel
theorem dX6_why_4 : decode cX6_why 4 = .ok (.ifCond .eq 5, 3) := by decide +kernel
theorem dX6_why_7 : decode cX6_why 7 = .ok (.iconst 1, 1) := by decide +kernel
theorem dX6_why_8 : decode cX6_why 8 = .ok (.ireturn, 1) := by decide +kernel
theorem dX6_why_9 : decode cX6_why 9 = .ok (.aload_n 0, 1) := by decide +kernel
theorem dX6_why_10 : decode cX6_why 10 = .ok (.getfield 7, 3) := by decide +kernel
theorem dX6_why_13 : decode cX6_why 13 = .ok (.iload_n 1, 1) := by decide +kernel
theorem dX6_why_14 : decode cX6_why 14 = .ok (.iconst 1, 1) := by decide +kernel
theorem dX6_why_15 : decode cX6_why 15 = .ok (.invokestatic 65, 3) := by decide +kernel
theorem dX6_why_18 : decode cX6_why 18 = .ok (.iaload, 1) := by decide +kernel
theorem dX6_why_19 : decode cX6_why 19 = .ok (.iload_n 1, 1) := by decide +kernel
theorem dX6_why_20 : decode cX6_why 20 = .ok (.invokestatic 104, 3) := by decide +kernel
theorem dX6_why_23 : decode cX6_why 23 = .ok (.if_icmp .ne 5, 3) := by decide +kernel
theorem dX6_why_26 : decode cX6_why 26 = .ok (.iconst 2, 1) := by decide +kernel
theorem dX6_why_27 : decode cX6_why 27 = .ok (.ireturn, 1) := by decide +kernel
theorem dX6_why_28 : decode cX6_why 28 = .ok (.iload_n 1, 1) := by decide +kernel
theorem dX6_why_29 : decode cX6_why 29 = .ok (.bipush 7, 2) := by decide +kernel
theorem dX6_why_31 : decode cX6_why 31 = .ok (.if_icmp .ne 15, 3) := by decide +kernel
theorem dX6_why_34 : decode cX6_why 34 = .ok (.aload_n 0, 1) := by decide +kernel
theorem dX6_why_35 : decode cX6_why 35 = .ok (.getfield 7, 3) := by decide +kernel
theorem dX6_why_38 : decode cX6_why 38 = .ok (.iconst 2, 1) := by decide +kernel
theorem dX6_why_39 : decode cX6_why 39 = .ok (.iaload, 1) := by decide +kernel
theorem dX6_why_40 : decode cX6_why 40 = .ok (.iconst 2, 1) := by decide +kernel
theorem dX6_why_41 : decode cX6_why 41 = .ok (.if_icmp .ge 5, 3) := by decide +kernel
theorem dX6_why_44 : decode cX6_why 44 = .ok (.iconst 3, 1) := by decide +kernel
theorem dX6_why_45 : decode cX6_why 45 = .ok (.ireturn, 1) := by decide +kernel
theorem dX6_why_46 : decode cX6_why 46 = .ok (.iload_n 1, 1) := by decide +kernel
theorem dX6_why_47 : decode cX6_why 47 = .ok (.iload_n 2, 1) := by decide +kernel
theorem dX6_why_48 : decode cX6_why 48 = .ok (.invokestatic 107, 3) := by decide +kernel
theorem dX6_why_51 : decode cX6_why 51 = .ok (.ifCond .ne 7, 3) := by decide +kernel
theorem dX6_why_54 : decode cX6_why 54 = .ok (.iconst 4, 1) := by decide +kernel
theorem dX6_why_55 : decode cX6_why 55 = .ok (.goto 23, 3) := by decide +kernel
theorem dX6_why_58 : decode cX6_why 58 = .ok (.aload_n 0, 1) := by decide +kernel
theorem dX6_why_59 : decode cX6_why 59 = .ok (.aload_n 0, 1) := by decide +kernel
theorem dX6_why_60 : decode cX6_why 60 = .ok (.getfield 7, 3) := by decide +kernel
theorem dX6_why_63 : decode cX6_why 63 = .ok (.iconst 3, 1) := by decide +kernel
theorem dX6_why_64 : decode cX6_why 64 = .ok (.iaload, 1) := by decide +kernel
theorem dX6_why_65 : decode cX6_why 65 = .ok (.iload_n 1, 1) := by decide +kernel
theorem dX6_why_66 : decode cX6_why 66 = .ok (.iload_n 2, 1) := by decide +kernel
theorem dX6_why_67 : decode cX6_why 67 = .ok (.invokevirtual 110, 3) := by decide +kernel
theorem dX6_why_70 : decode cX6_why 70 = .ok (.ifCond .eq 7, 3) := by decide +kernel
theorem dX6_why_73 : decode cX6_why 73 = .ok (.iconst 0, 1) := by decide +kernel
theorem dX6_why_74 : decode cX6_why 74 = .ok (.goto 4, 3) := by decide +kernel
theorem dX6_why_77 : decode cX6_why 77 = .ok (.iconst 5, 1) := by decide +kernel
theorem dX6_why_78 : decode cX6_why 78 = .ok (.ireturn, 1) := by decide +kernel
theorem dX6_pays_0 : decode cX6_pays 0 = .ok (.aload_n 0, 1) := by decide +kernel
theorem dX6_pays_1 : decode cX6_pays 1 = .ok (.iload_n 1, 1) := by decide +kernel
theorem dX6_pays_2 : decode cX6_pays 2 = .ok (.iload_n 2, 1) := by decide +kernel
theorem dX6_pays_3 : decode cX6_pays 3 = .ok (.iconst 0, 1) := by decide +kernel
theorem dX6_pays_4 : decode cX6_pays 4 = .ok (.invokevirtual 90, 3) := by decide +kernel
theorem dX6_pays_7 : decode cX6_pays 7 = .ok (.istore_n 3, 1) := by decide +kernel
theorem dX6_pays_8 : decode cX6_pays 8 = .ok (.aload_n 0, 1) := by decide +kernel
theorem dX6_pays_9 : decode cX6_pays 9 = .ok (.iload_n 1, 1) := by decide +kernel
theorem dX6_pays_10 : decode cX6_pays 10 = .ok (.iload_n 2, 1) := by decide +kernel
theorem dX6_pays_11 : decode cX6_pays 11 = .ok (.iconst 1, 1) := by decide +kernel
theorem dX6_pays_12 : decode cX6_pays 12 = .ok (.invokevirtual 90, 3) := by decide +kernel
theorem dX6_pays_15 : decode cX6_pays 15 = .ok (.istore 4, 2) := by decide +kernel
theorem dX6_pays_17 : decode cX6_pays 17 = .ok (.aload_n 0, 1) := by decide +kernel
theorem dX6_pays_18 : decode cX6_pays 18 = .ok (.iload_n 1, 1) := by decide +kernel
theorem dX6_pays_19 : decode cX6_pays 19 = .ok (.iconst 0, 1) := by decide +kernel
theorem dX6_pays_20 : decode cX6_pays 20 = .ok (.iload_n 3, 1) := by decide +kernel
theorem dX6_pays_21 : decode cX6_pays 21 = .ok (.ineg, 1) := by decide +kernel
theorem dX6_pays_22 : decode cX6_pays 22 = .ok (.invokevirtual 68, 3) := by decide +kernel
theorem dX6_pays_25 : decode cX6_pays 25 = .ok (.aload_n 0, 1) := by decide +kernel
theorem dX6_pays_26 : decode cX6_pays 26 = .ok (.iload_n 1, 1) := by decide +kernel
theorem dX6_pays_27 : decode cX6_pays 27 = .ok (.iconst 1, 1) := by decide +kernel
theorem dX6_pays_28 : decode cX6_pays 28 = .ok (.iload 4, 2) := by decide +kernel
theorem dX6_pays_30 : decode cX6_pays 30 = .ok (.ineg, 1) := by decide +kernel
theorem dX6_pays_31 : decode cX6_pays 31 = .ok (.invokevirtual 68, 3) := by decide +kernel
theorem dX6_pays_34 : decode cX6_pays 34 = .ok (.return_, 1) := by decide +kernel
theorem dX6_takes_0 : decode cX6_takes 0 = .ok (.aload_n 0, 1) := by decide +kernel
theorem dX6_takes_1 : decode cX6_takes 1 = .ok (.iload_n 1, 1) := by decide +kernel
theorem dX6_takes_2 : decode cX6_takes 2 = .ok (.iload_n 3, 1) := by decide +kernel
theorem dX6_takes_3 : decode cX6_takes 3 = .ok (.aload_n 0, 1) := by decide +kernel
theorem dX6_takes_4 : decode cX6_takes 4 = .ok (.getfield 7, 3) := by decide +kernel
theorem dX6_takes_7 : decode cX6_takes 7 = .ok (.iload_n 2, 1) := by decide +kernel
theorem dX6_takes_8 : decode cX6_takes 8 = .ok (.iconst 0, 1) := by decide +kernel
theorem dX6_takes_9 : decode cX6_takes 9 = .ok (.invokestatic 65, 3) := by decide +kernel
theorem dX6_takes_12 : decode cX6_takes 12 = .ok (.iaload, 1) := by decide +kernel
theorem dX6_takes_13 : decode cX6_takes 13 = .ok (.invokevirtual 68, 3) := by decide +kernel
theorem dX6_takes_16 : decode cX6_takes 16 = .ok (.aload_n 0, 1) := by decide +kernel
theorem dX6_takes_17 : decode cX6_takes 17 = .ok (.getfield 7, 3) := by decide +kernel
theorem dX6_takes_20 : decode cX6_takes 20 = .ok (.iload_n 2, 1) := by decide +kernel
theorem dX6_takes_21 : decode cX6_takes 21 = .ok (.iconst 0, 1) := by decide +kernel
theorem dX6_takes_22 : decode cX6_takes 22 = .ok (.invokestatic 65, 3) := by decide +kernel
theorem dX6_takes_25 : decode cX6_takes 25 = .ok (.iconst 0, 1) := by decide +kernel
theorem dX6_takes_26 : decode cX6_takes 26 = .ok (.iastore, 1) := by decide +kernel
theorem dX6_takes_27 : decode cX6_takes 27 = .ok (.return_, 1) := by decide +kernel
theorem dX6_acts_0 : decode cX6_acts 0 = .ok (.iload_n 2, 1) := by decide +kernel
theorem dX6_acts_1 : decode cX6_acts 1 = .ok (.tableswitch 140 0 6 #[43, 73, 83, 93, 103, 113, 123], 43) := by decide +kernel
theorem dX6_acts_44 : decode cX6_acts 44 = .ok (.aload_n 0, 1) := by decide +kernel
theorem dX6_acts_45 : decode cX6_acts 45 = .ok (.iload_n 1, 1) := by decide +kernel
theorem dX6_acts_46 : decode cX6_acts 46 = .ok (.iload_n 2, 1) := by decide +kernel
theorem dX6_acts_47 : decode cX6_acts 47 = .ok (.iconst 0, 1) := by decide +kernel
theorem dX6_acts_48 : decode cX6_acts 48 = .ok (.invokevirtual 113, 3) := by decide +kernel
theorem dX6_acts_51 : decode cX6_acts 51 = .ok (.aload_n 0, 1) := by decide +kernel
theorem dX6_acts_52 : decode cX6_acts 52 = .ok (.iload_n 1, 1) := by decide +kernel
theorem dX6_acts_53 : decode cX6_acts 53 = .ok (.iconst 0, 1) := by decide +kernel
theorem dX6_acts_54 : decode cX6_acts 54 = .ok (.aload_n 0, 1) := by decide +kernel
theorem dX6_acts_55 : decode cX6_acts 55 = .ok (.iload_n 1, 1) := by decide +kernel
theorem dX6_acts_56 : decode cX6_acts 56 = .ok (.iconst 1, 1) := by decide +kernel
theorem dX6_acts_57 : decode cX6_acts 57 = .ok (.invokevirtual 51, 3) := by decide +kernel
theorem dX6_acts_60 : decode cX6_acts 60 = .ok (.ifCond .eq 7, 3) := by decide +kernel
theorem dX6_acts_63 : decode cX6_acts 63 = .ok (.iconst 1, 1) := by decide +kernel
theorem dX6_acts_64 : decode cX6_acts 64 = .ok (.goto 4, 3) := by decide +kernel
theorem dX6_acts_67 : decode cX6_acts 67 = .ok (.iconst 0, 1) := by decide +kernel
theorem dX6_acts_68 : decode cX6_acts 68 = .ok (.invokevirtual 68, 3) := by decide +kernel
theorem dX6_acts_71 : decode cX6_acts 71 = .ok (.goto 77, 3) := by decide +kernel
theorem dX6_acts_74 : decode cX6_acts 74 = .ok (.aload_n 0, 1) := by decide +kernel
theorem dX6_acts_75 : decode cX6_acts 75 = .ok (.iload_n 1, 1) := by decide +kernel
theorem dX6_acts_76 : decode cX6_acts 76 = .ok (.iload_n 2, 1) := by decide +kernel
theorem dX6_acts_77 : decode cX6_acts 77 = .ok (.iconst 1, 1) := by decide +kernel
theorem dX6_acts_78 : decode cX6_acts 78 = .ok (.invokevirtual 113, 3) := by decide +kernel
theorem dX6_acts_81 : decode cX6_acts 81 = .ok (.goto 67, 3) := by decide +kernel
theorem dX6_acts_84 : decode cX6_acts 84 = .ok (.aload_n 0, 1) := by decide +kernel
theorem dX6_acts_85 : decode cX6_acts 85 = .ok (.iload_n 1, 1) := by decide +kernel
theorem dX6_acts_86 : decode cX6_acts 86 = .ok (.iconst 2, 1) := by decide +kernel
theorem dX6_acts_87 : decode cX6_acts 87 = .ok (.iconst 1, 1) := by decide +kernel
theorem dX6_acts_88 : decode cX6_acts 88 = .ok (.invokevirtual 68, 3) := by decide +kernel
theorem dX6_acts_91 : decode cX6_acts 91 = .ok (.goto 57, 3) := by decide +kernel
theorem dX6_acts_94 : decode cX6_acts 94 = .ok (.aload_n 0, 1) := by decide +kernel
theorem dX6_acts_95 : decode cX6_acts 95 = .ok (.iload_n 1, 1) := by decide +kernel
theorem dX6_acts_96 : decode cX6_acts 96 = .ok (.iload_n 2, 1) := by decide +kernel
theorem dX6_acts_97 : decode cX6_acts 97 = .ok (.iconst 4, 1) := by decide +kernel
theorem dX6_acts_98 : decode cX6_acts 98 = .ok (.invokevirtual 113, 3) := by decide +kernel
theorem dX6_acts_101 : decode cX6_acts 101 = .ok (.goto 47, 3) := by decide +kernel
theorem dX6_acts_104 : decode cX6_acts 104 = .ok (.aload_n 0, 1) := by decide +kernel
theorem dX6_acts_105 : decode cX6_acts 105 = .ok (.iload_n 1, 1) := by decide +kernel
theorem dX6_acts_106 : decode cX6_acts 106 = .ok (.iconst 4, 1) := by decide +kernel
theorem dX6_acts_107 : decode cX6_acts 107 = .ok (.iconst 2, 1) := by decide +kernel
theorem dX6_acts_108 : decode cX6_acts 108 = .ok (.invokevirtual 68, 3) := by decide +kernel
theorem dX6_acts_111 : decode cX6_acts 111 = .ok (.goto 37, 3) := by decide +kernel
theorem dX6_acts_114 : decode cX6_acts 114 = .ok (.aload_n 0, 1) := by decide +kernel
theorem dX6_acts_115 : decode cX6_acts 115 = .ok (.iload_n 1, 1) := by decide +kernel
theorem dX6_acts_116 : decode cX6_acts 116 = .ok (.iload_n 2, 1) := by decide +kernel
theorem dX6_acts_117 : decode cX6_acts 117 = .ok (.iconst 3, 1) := by decide +kernel
theorem dX6_acts_118 : decode cX6_acts 118 = .ok (.invokevirtual 113, 3) := by decide +kernel
theorem dX6_acts_121 : decode cX6_acts 121 = .ok (.goto 27, 3) := by decide +kernel
theorem dX6_acts_124 : decode cX6_acts 124 = .ok (.aload_n 0, 1) := by decide +kernel
theorem dX6_acts_125 : decode cX6_acts 125 = .ok (.iload_n 1, 1) := by decide +kernel
theorem dX6_acts_126 : decode cX6_acts 126 = .ok (.iconst (-1), 1) := by decide +kernel
theorem dX6_acts_127 : decode cX6_acts 127 = .ok (.invokevirtual 116, 3) := by decide +kernel
theorem dX6_acts_130 : decode cX6_acts 130 = .ok (.aload_n 0, 1) := by decide +kernel
theorem dX6_acts_131 : decode cX6_acts 131 = .ok (.iload_n 1, 1) := by decide +kernel
theorem dX6_acts_132 : decode cX6_acts 132 = .ok (.bipush 8, 2) := by decide +kernel
theorem dX6_acts_134 : decode cX6_acts 134 = .ok (.iconst 1, 1) := by decide +kernel
theorem dX6_acts_135 : decode cX6_acts 135 = .ok (.invokevirtual 68, 3) := by decide +kernel
theorem dX6_acts_138 : decode cX6_acts 138 = .ok (.goto 10, 3) := by decide +kernel
theorem dX6_acts_141 : decode cX6_acts 141 = .ok (.aload_n 0, 1) := by decide +kernel
theorem dX6_acts_142 : decode cX6_acts 142 = .ok (.iload_n 1, 1) := by decide +kernel
theorem dX6_acts_143 : decode cX6_acts 143 = .ok (.iload_n 2, 1) := by decide +kernel
theorem dX6_acts_144 : decode cX6_acts 144 = .ok (.iload_n 3, 1) := by decide +kernel
theorem dX6_acts_145 : decode cX6_acts 145 = .ok (.invokevirtual 119, 3) := by decide +kernel
theorem dX6_acts_148 : decode cX6_acts 148 = .ok (.return_, 1) := by decide +kernel
theorem dX6_actsElse_0 : decode cX6_actsElse 0 = .ok (.iload_n 2, 1) := by decide +kernel
theorem dX6_actsElse_1 : decode cX6_actsElse 1 = .ok (.tableswitch 118 7 10 #[31, 49, 82, 101], 31) := by decide +kernel
theorem dX6_actsElse_32 : decode cX6_actsElse 32 = .ok (.aload_n 0, 1) := by decide +kernel
theorem dX6_actsElse_33 : decode cX6_actsElse 33 = .ok (.iload_n 1, 1) := by decide +kernel
theorem dX6_actsElse_34 : decode cX6_actsElse 34 = .ok (.iconst 5, 1) := by decide +kernel
theorem dX6_actsElse_35 : decode cX6_actsElse 35 = .ok (.iconst 1, 1) := by decide +kernel
theorem dX6_actsElse_36 : decode cX6_actsElse 36 = .ok (.invokevirtual 68, 3) := by decide +kernel
theorem dX6_actsElse_39 : decode cX6_actsElse 39 = .ok (.aload_n 0, 1) := by decide +kernel
theorem dX6_actsElse_40 : decode cX6_actsElse 40 = .ok (.iload_n 1, 1) := by decide +kernel
theorem dX6_actsElse_41 : decode cX6_actsElse 41 = .ok (.bipush 6, 2) := by decide +kernel
theorem dX6_actsElse_43 : decode cX6_actsElse 43 = .ok (.iconst 1, 1) := by decide +kernel
theorem dX6_actsElse_44 : decode cX6_actsElse 44 = .ok (.invokevirtual 68, 3) := by decide +kernel
theorem dX6_actsElse_47 : decode cX6_actsElse 47 = .ok (.goto 91, 3) := by decide +kernel
theorem dX6_actsElse_50 : decode cX6_actsElse 50 = .ok (.aload_n 0, 1) := by decide +kernel
theorem dX6_actsElse_51 : decode cX6_actsElse 51 = .ok (.iload_n 1, 1) := by decide +kernel
theorem dX6_actsElse_52 : decode cX6_actsElse 52 = .ok (.iconst 2, 1) := by decide +kernel
theorem dX6_actsElse_53 : decode cX6_actsElse 53 = .ok (.iload_n 3, 1) := by decide +kernel
theorem dX6_actsElse_54 : decode cX6_actsElse 54 = .ok (.ineg, 1) := by decide +kernel
theorem dX6_actsElse_55 : decode cX6_actsElse 55 = .ok (.invokevirtual 68, 3) := by decide +kernel
theorem dX6_actsElse_58 : decode cX6_actsElse 58 = .ok (.aload_n 0, 1) := by decide +kernel
theorem dX6_actsElse_59 : decode cX6_actsElse 59 = .ok (.iload_n 1, 1) := by decide +kernel
theorem dX6_actsElse_60 : decode cX6_actsElse 60 = .ok (.iconst 4, 1) := by decide +kernel
theorem dX6_actsElse_61 : decode cX6_actsElse 61 = .ok (.aload_n 0, 1) := by decide +kernel
theorem dX6_actsElse_62 : decode cX6_actsElse 62 = .ok (.iload_n 1, 1) := by decide +kernel
theorem dX6_actsElse_63 : decode cX6_actsElse 63 = .ok (.iconst 0, 1) := by decide +kernel
theorem dX6_actsElse_64 : decode cX6_actsElse 64 = .ok (.invokevirtual 51, 3) := by decide +kernel
theorem dX6_actsElse_67 : decode cX6_actsElse 67 = .ok (.ifCond .eq 7, 3) := by decide +kernel
theorem dX6_actsElse_70 : decode cX6_actsElse 70 = .ok (.iconst 5, 1) := by decide +kernel
theorem dX6_actsElse_71 : decode cX6_actsElse 71 = .ok (.goto 4, 3) := by decide +kernel
theorem dX6_actsElse_74 : decode cX6_actsElse 74 = .ok (.iconst 3, 1) := by decide +kernel
theorem dX6_actsElse_75 : decode cX6_actsElse 75 = .ok (.iload_n 3, 1) := by decide +kernel
theorem dX6_actsElse_76 : decode cX6_actsElse 76 = .ok (.imul, 1) := by decide +kernel
theorem dX6_actsElse_77 : decode cX6_actsElse 77 = .ok (.invokevirtual 68, 3) := by decide +kernel
theorem dX6_actsElse_80 : decode cX6_actsElse 80 = .ok (.goto 58, 3) := by decide +kernel
theorem dX6_actsElse_83 : decode cX6_actsElse 83 = .ok (.aload_n 0, 1) := by decide +kernel
theorem dX6_actsElse_84 : decode cX6_actsElse 84 = .ok (.iload_n 1, 1) := by decide +kernel
theorem dX6_actsElse_85 : decode cX6_actsElse 85 = .ok (.iload_n 3, 1) := by decide +kernel
theorem dX6_actsElse_86 : decode cX6_actsElse 86 = .ok (.invokevirtual 116, 3) := by decide +kernel
theorem dX6_actsElse_89 : decode cX6_actsElse 89 = .ok (.aload_n 0, 1) := by decide +kernel
theorem dX6_actsElse_90 : decode cX6_actsElse 90 = .ok (.iload_n 1, 1) := by decide +kernel
theorem dX6_actsElse_91 : decode cX6_actsElse 91 = .ok (.bipush 10, 2) := by decide +kernel
theorem dX6_actsElse_93 : decode cX6_actsElse 93 = .ok (.iconst 1, 1) := by decide +kernel
theorem dX6_actsElse_94 : decode cX6_actsElse 94 = .ok (.iload_n 3, 1) := by decide +kernel
theorem dX6_actsElse_95 : decode cX6_actsElse 95 = .ok (.ishl, 1) := by decide +kernel
theorem dX6_actsElse_96 : decode cX6_actsElse 96 = .ok (.invokevirtual 68, 3) := by decide +kernel
theorem dX6_actsElse_99 : decode cX6_actsElse 99 = .ok (.goto 39, 3) := by decide +kernel
theorem dX6_actsElse_102 : decode cX6_actsElse 102 = .ok (.aload_n 0, 1) := by decide +kernel
theorem dX6_actsElse_103 : decode cX6_actsElse 103 = .ok (.iload_n 1, 1) := by decide +kernel
theorem dX6_actsElse_104 : decode cX6_actsElse 104 = .ok (.iconst 2, 1) := by decide +kernel
theorem dX6_actsElse_105 : decode cX6_actsElse 105 = .ok (.iconst 1, 1) := by decide +kernel
theorem dX6_actsElse_106 : decode cX6_actsElse 106 = .ok (.invokevirtual 68, 3) := by decide +kernel
theorem dX6_actsElse_109 : decode cX6_actsElse 109 = .ok (.aload_n 0, 1) := by decide +kernel
theorem dX6_actsElse_110 : decode cX6_actsElse 110 = .ok (.getfield 7, 3) := by decide +kernel
theorem dX6_actsElse_113 : decode cX6_actsElse 113 = .ok (.iconst 4, 1) := by decide +kernel
theorem dX6_actsElse_114 : decode cX6_actsElse 114 = .ok (.iload_n 1, 1) := by decide +kernel
theorem dX6_actsElse_115 : decode cX6_actsElse 115 = .ok (.iastore, 1) := by decide +kernel
theorem dX6_actsElse_116 : decode cX6_actsElse 116 = .ok (.goto 22, 3) := by decide +kernel
theorem dX6_actsElse_119 : decode cX6_actsElse 119 = .ok (.aload_n 0, 1) := by decide +kernel
theorem dX6_actsElse_120 : decode cX6_actsElse 120 = .ok (.iload_n 1, 1) := by decide +kernel
theorem dX6_actsElse_121 : decode cX6_actsElse 121 = .ok (.iload_n 3, 1) := by decide +kernel
theorem dX6_actsElse_122 : decode cX6_actsElse 122 = .ok (.iconst 5, 1) := by decide +kernel
theorem dX6_actsElse_123 : decode cX6_actsElse 123 = .ok (.idiv, 1) := by decide +kernel
theorem dX6_actsElse_124 : decode cX6_actsElse 124 = .ok (.bipush (-2), 2) := by decide +kernel
theorem dX6_actsElse_126 : decode cX6_actsElse 126 = .ok (.invokevirtual 68, 3) := by decide +kernel
theorem dX6_actsElse_129 : decode cX6_actsElse 129 = .ok (.aload_n 0, 1) := by decide +kernel
theorem dX6_actsElse_130 : decode cX6_actsElse 130 = .ok (.iload_n 1, 1) := by decide +kernel
theorem dX6_actsElse_131 : decode cX6_actsElse 131 = .ok (.iload_n 3, 1) := by decide +kernel
theorem dX6_actsElse_132 : decode cX6_actsElse 132 = .ok (.iconst 5, 1) := by decide +kernel

theorem dX6_digest_67 : decode cX6_digest 67 = .ok (.invokevirtual 208, 3) := by decide +kernel
theorem dX6_digest_70 : decode cX6_digest 70 = .ok (.iconst 0, 1) := by decide +kernel
theorem dX6_digest_71 : decode cX6_digest 71 = .ok (.istore_n 1, 1) := by decide +kernel
theorem dX6_digest_72 : decode cX6_digest 72 = .ok (.iload_n 1, 1) := by decide +kernel
theorem dX6_digest_73 : decode cX6_digest 73 = .ok (.aload_n 0, 1) := by decide +kernel
theorem dX6_digest_74 : decode cX6_digest 74 = .ok (.getfield 7, 3) := by decide +kernel
theorem dX6_digest_77 : decode cX6_digest 77 = .ok (.iconst 0, 1) := by decide +kernel
theorem dX6_digest_78 : decode cX6_digest 78 = .ok (.iaload, 1) := by decide +kernel
theorem dX6_digest_79 : decode cX6_digest 79 = .ok (.if_icmp .ge 14, 3) := by decide +kernel
theorem dX6_digest_82 : decode cX6_digest 82 = .ok (.aload_n 0, 1) := by decide +kernel
theorem dX6_digest_83 : decode cX6_digest 83 = .ok (.iload_n 1, 1) := by decide +kernel
theorem dX6_digest_84 : decode cX6_digest 84 = .ok (.invokevirtual 213, 3) := by decide +kernel
theorem dX6_digest_87 : decode cX6_digest 87 = .ok (.iinc 1 1, 3) := by decide +kernel
theorem dX6_digest_90 : decode cX6_digest 90 = .ok (.goto (-18), 3) := by decide +kernel
theorem dX6_digest_93 : decode cX6_digest 93 = .ok (.iconst 0, 1) := by decide +kernel
theorem dX6_digest_94 : decode cX6_digest 94 = .ok (.istore_n 1, 1) := by decide +kernel
theorem dX6_digest_95 : decode cX6_digest 95 = .ok (.iload_n 1, 1) := by decide +kernel
theorem dX6_digest_96 : decode cX6_digest 96 = .ok (.bipush 48, 2) := by decide +kernel
theorem dX6_digest_98 : decode cX6_digest 98 = .ok (.if_icmp .ge 23, 3) := by decide +kernel
theorem dX6_digest_101 : decode cX6_digest 101 = .ok (.aload_n 0, 1) := by decide +kernel
theorem dX6_digest_102 : decode cX6_digest 102 = .ok (.aload_n 0, 1) := by decide +kernel
theorem dX6_digest_103 : decode cX6_digest 103 = .ok (.iload_n 1, 1) := by decide +kernel
theorem dX6_digest_104 : decode cX6_digest 104 = .ok (.iconst 4, 1) := by decide +kernel
theorem dX6_digest_105 : decode cX6_digest 105 = .ok (.idiv, 1) := by decide +kernel
theorem dX6_digest_106 : decode cX6_digest 106 = .ok (.iload_n 1, 1) := by decide +kernel
theorem dX6_digest_107 : decode cX6_digest 107 = .ok (.iconst 4, 1) := by decide +kernel
theorem dX6_digest_108 : decode cX6_digest 108 = .ok (.irem, 1) := by decide +kernel
theorem dX6_digest_109 : decode cX6_digest 109 = .ok (.invokevirtual 180, 3) := by decide +kernel
theorem dX6_digest_112 : decode cX6_digest 112 = .ok (.invokevirtual 208, 3) := by decide +kernel
theorem dX6_digest_115 : decode cX6_digest 115 = .ok (.iinc 1 1, 3) := by decide +kernel
theorem dX6_digest_118 : decode cX6_digest 118 = .ok (.goto (-23), 3) := by decide +kernel
theorem dX6_digest_121 : decode cX6_digest 121 = .ok (.aload_n 0, 1) := by decide +kernel
theorem dX6_digest_122 : decode cX6_digest 122 = .ok (.aload_n 0, 1) := by decide +kernel
theorem dX6_digest_123 : decode cX6_digest 123 = .ok (.invokevirtual 189, 3) := by decide +kernel
theorem dX6_digest_126 : decode cX6_digest 126 = .ok (.invokevirtual 208, 3) := by decide +kernel
theorem dX6_digest_129 : decode cX6_digest 129 = .ok (.aload_n 0, 1) := by decide +kernel
theorem dX6_digest_130 : decode cX6_digest 130 = .ok (.aload_n 0, 1) := by decide +kernel
theorem dX6_digest_131 : decode cX6_digest 131 = .ok (.iconst 1, 1) := by decide +kernel
theorem dX6_digest_132 : decode cX6_digest 132 = .ok (.invokevirtual 196, 3) := by decide +kernel
theorem dX6_digest_135 : decode cX6_digest 135 = .ok (.invokevirtual 208, 3) := by decide +kernel
theorem dX6_digest_138 : decode cX6_digest 138 = .ok (.aload_n 0, 1) := by decide +kernel
theorem dX6_digest_139 : decode cX6_digest 139 = .ok (.aload_n 0, 1) := by decide +kernel
theorem dX6_digest_140 : decode cX6_digest 140 = .ok (.iconst 1, 1) := by decide +kernel
theorem dX6_digest_141 : decode cX6_digest 141 = .ok (.iconst 0, 1) := by decide +kernel
theorem dX6_digest_142 : decode cX6_digest 142 = .ok (.invokevirtual 199, 3) := by decide +kernel
theorem dX6_digest_145 : decode cX6_digest 145 = .ok (.invokevirtual 208, 3) := by decide +kernel
theorem dX6_digest_148 : decode cX6_digest 148 = .ok (.aload_n 0, 1) := by decide +kernel
theorem dX6_digest_149 : decode cX6_digest 149 = .ok (.aload_n 0, 1) := by decide +kernel
theorem dX6_digest_150 : decode cX6_digest 150 = .ok (.getfield 7, 3) := by decide +kernel
theorem dX6_digest_153 : decode cX6_digest 153 = .ok (.bipush 85, 2) := by decide +kernel
theorem dX6_digest_155 : decode cX6_digest 155 = .ok (.iaload, 1) := by decide +kernel
theorem dX6_digest_156 : decode cX6_digest 156 = .ok (.invokevirtual 208, 3) := by decide +kernel
theorem dX6_digest_159 : decode cX6_digest 159 = .ok (.iconst 0, 1) := by decide +kernel
theorem dX6_digest_160 : decode cX6_digest 160 = .ok (.istore_n 1, 1) := by decide +kernel
theorem dX6_digest_161 : decode cX6_digest 161 = .ok (.iload_n 1, 1) := by decide +kernel
theorem dX6_digest_162 : decode cX6_digest 162 = .ok (.iconst 4, 1) := by decide +kernel
theorem dX6_digest_163 : decode cX6_digest 163 = .ok (.aload_n 0, 1) := by decide +kernel
theorem dX6_digest_164 : decode cX6_digest 164 = .ok (.getfield 7, 3) := by decide +kernel
theorem dX6_digest_167 : decode cX6_digest 167 = .ok (.bipush 85, 2) := by decide +kernel
theorem dX6_digest_169 : decode cX6_digest 169 = .ok (.iaload, 1) := by decide +kernel
theorem dX6_digest_170 : decode cX6_digest 170 = .ok (.imul, 1) := by decide +kernel
theorem dX6_digest_171 : decode cX6_digest 171 = .ok (.if_icmp .ge 22, 3) := by decide +kernel
theorem dX6_digest_174 : decode cX6_digest 174 = .ok (.aload_n 0, 1) := by decide +kernel
theorem dX6_digest_175 : decode cX6_digest 175 = .ok (.aload_n 0, 1) := by decide +kernel
theorem dX6_digest_176 : decode cX6_digest 176 = .ok (.getfield 7, 3) := by decide +kernel
theorem dX6_digest_179 : decode cX6_digest 179 = .ok (.bipush 86, 2) := by decide +kernel
theorem dX6_digest_181 : decode cX6_digest 181 = .ok (.iload_n 1, 1) := by decide +kernel
theorem dX6_digest_182 : decode cX6_digest 182 = .ok (.iadd, 1) := by decide +kernel
theorem dX6_digest_183 : decode cX6_digest 183 = .ok (.iaload, 1) := by decide +kernel
theorem dX6_digest_184 : decode cX6_digest 184 = .ok (.invokevirtual 208, 3) := by decide +kernel
theorem dX6_digest_187 : decode cX6_digest 187 = .ok (.iinc 1 1, 3) := by decide +kernel
theorem dX6_digest_190 : decode cX6_digest 190 = .ok (.goto (-29), 3) := by decide +kernel
theorem dX6_digest_193 : decode cX6_digest 193 = .ok (.aload_n 0, 1) := by decide +kernel
theorem dX6_digest_194 : decode cX6_digest 194 = .ok (.getfield 204, 3) := by decide +kernel
theorem dX6_digest_197 : decode cX6_digest 197 = .ok (.lreturn, 1) := by decide +kernel
theorem dL_newGame_0 : decode cL_newGame 0 = .ok (.aload_n 3, 1) := by decide +kernel
theorem dL_newGame_1 : decode cL_newGame 1 = .ok (.iconst 0, 1) := by decide +kernel
theorem dL_newGame_2 : decode cL_newGame 2 = .ok (.aload_n 0, 1) := by decide +kernel
theorem dL_newGame_3 : decode cL_newGame 3 = .ok (.iload_n 1, 1) := by decide +kernel
theorem dL_newGame_4 : decode cL_newGame 4 = .ok (.iload_n 2, 1) := by decide +kernel
theorem dL_newGame_5 : decode cL_newGame 5 = .ok (.invokevirtual 7, 3) := by decide +kernel
theorem dL_newGame_8 : decode cL_newGame 8 = .ok (.i2l, 1) := by decide +kernel
theorem dL_newGame_9 : decode cL_newGame 9 = .ok (.lastore, 1) := by decide +kernel
theorem dL_newGame_10 : decode cL_newGame 10 = .ok (.goto 7, 3) := by decide +kernel
theorem dL_newGame_13 : decode cL_newGame 13 = .ok (.astore 4, 2) := by decide +kernel
theorem dL_newGame_15 : decode cL_newGame 15 = .ok (.iconst 1, 1) := by decide +kernel
theorem dL_newGame_16 : decode cL_newGame 16 = .ok (.ireturn, 1) := by decide +kernel
theorem dL_newGame_17 : decode cL_newGame 17 = .ok (.iconst 0, 1) := by decide +kernel
theorem dL_newGame_18 : decode cL_newGame 18 = .ok (.ireturn, 1) := by decide +kernel
theorem dL_reason_0 : decode cL_reason 0 = .ok (.aload_n 3, 1) := by decide +kernel
theorem dL_reason_1 : decode cL_reason 1 = .ok (.iconst 0, 1) := by decide +kernel
theorem dL_reason_2 : decode cL_reason 2 = .ok (.aload_n 0, 1) := by decide +kernel
theorem dL_reason_3 : decode cL_reason 3 = .ok (.iload_n 1, 1) := by decide +kernel
theorem dL_reason_4 : decode cL_reason 4 = .ok (.iload_n 2, 1) := by decide +kernel
theorem dL_reason_5 : decode cL_reason 5 = .ok (.invokevirtual 15, 3) := by decide +kernel
theorem dL_reason_8 : decode cL_reason 8 = .ok (.i2l, 1) := by decide +kernel
theorem dL_reason_9 : decode cL_reason 9 = .ok (.lastore, 1) := by decide +kernel
theorem dL_reason_10 : decode cL_reason 10 = .ok (.goto 7, 3) := by decide +kernel
theorem dL_reason_13 : decode cL_reason 13 = .ok (.astore 4, 2) := by decide +kernel
theorem dL_reason_15 : decode cL_reason 15 = .ok (.iconst 1, 1) := by decide +kernel
theorem dL_reason_16 : decode cL_reason 16 = .ok (.ireturn, 1) := by decide +kernel
theorem dL_reason_17 : decode cL_reason 17 = .ok (.iconst 0, 1) := by decide +kernel
theorem dL_reason_18 : decode cL_reason 18 = .ok (.ireturn, 1) := by decide +kernel
theorem dL_place_0 : decode cL_place 0 = .ok (.aload_n 3, 1) := by decide +kernel
theorem dL_place_1 : decode cL_place 1 = .ok (.iconst 0, 1) := by decide +kernel
theorem dL_place_2 : decode cL_place 2 = .ok (.aload_n 0, 1) := by decide +kernel
theorem dL_place_3 : decode cL_place 3 = .ok (.iload_n 1, 1) := by decide +kernel
theorem dL_place_4 : decode cL_place 4 = .ok (.iload_n 2, 1) := by decide +kernel
theorem dL_place_5 : decode cL_place 5 = .ok (.invokevirtual 20, 3) := by decide +kernel
theorem dL_place_8 : decode cL_place 8 = .ok (.i2l, 1) := by decide +kernel
theorem dL_place_9 : decode cL_place 9 = .ok (.lastore, 1) := by decide +kernel
theorem dL_place_10 : decode cL_place 10 = .ok (.goto 11, 3) := by decide +kernel
theorem dL_place_13 : decode cL_place 13 = .ok (.astore 4, 2) := by decide +kernel
theorem dL_place_15 : decode cL_place 15 = .ok (.iconst 1, 1) := by decide +kernel
theorem dL_place_16 : decode cL_place 16 = .ok (.ireturn, 1) := by decide +kernel
theorem dL_place_17 : decode cL_place 17 = .ok (.astore 4, 2) := by decide +kernel
theorem dL_place_19 : decode cL_place 19 = .ok (.iconst 2, 1) := by decide +kernel
theorem dL_place_20 : decode cL_place 20 = .ok (.ireturn, 1) := by decide +kernel
theorem dL_place_21 : decode cL_place 21 = .ok (.iconst 0, 1) := by decide +kernel
theorem dL_place_22 : decode cL_place 22 = .ok (.ireturn, 1) := by decide +kernel
theorem dL_skip_0 : decode cL_skip 0 = .ok (.aload_n 1, 1) := by decide +kernel
theorem dL_skip_1 : decode cL_skip 1 = .ok (.iconst 0, 1) := by decide +kernel
theorem dL_skip_2 : decode cL_skip 2 = .ok (.aload_n 0, 1) := by decide +kernel
theorem dL_skip_3 : decode cL_skip 3 = .ok (.invokevirtual 25, 3) := by decide +kernel
theorem dL_skip_6 : decode cL_skip 6 = .ok (.i2l, 1) := by decide +kernel
theorem dL_skip_7 : decode cL_skip 7 = .ok (.lastore, 1) := by decide +kernel
theorem dL_skip_8 : decode cL_skip 8 = .ok (.goto 6, 3) := by decide +kernel
theorem dL_skip_11 : decode cL_skip 11 = .ok (.astore_n 2, 1) := by decide +kernel
theorem dL_skip_12 : decode cL_skip 12 = .ok (.iconst 1, 1) := by decide +kernel
theorem dL_skip_13 : decode cL_skip 13 = .ok (.ireturn, 1) := by decide +kernel
theorem dL_skip_14 : decode cL_skip 14 = .ok (.iconst 0, 1) := by decide +kernel
theorem dL_skip_15 : decode cL_skip 15 = .ok (.ireturn, 1) := by decide +kernel
theorem dL_play_0 : decode cL_play 0 = .ok (.aload_n 3, 1) := by decide +kernel
theorem dL_play_1 : decode cL_play 1 = .ok (.iconst 0, 1) := by decide +kernel
theorem dL_play_2 : decode cL_play 2 = .ok (.aload_n 0, 1) := by decide +kernel
theorem dL_play_3 : decode cL_play 3 = .ok (.iload_n 1, 1) := by decide +kernel
theorem dL_play_4 : decode cL_play 4 = .ok (.iload_n 2, 1) := by decide +kernel
theorem dL_play_5 : decode cL_play 5 = .ok (.invokevirtual 29, 3) := by decide +kernel
theorem dL_play_8 : decode cL_play 8 = .ok (.i2l, 1) := by decide +kernel
theorem dL_play_9 : decode cL_play 9 = .ok (.lastore, 1) := by decide +kernel
theorem dL_play_10 : decode cL_play 10 = .ok (.goto 7, 3) := by decide +kernel
theorem dL_play_13 : decode cL_play 13 = .ok (.astore 4, 2) := by decide +kernel
theorem dL_play_15 : decode cL_play 15 = .ok (.iconst 1, 1) := by decide +kernel
theorem dL_play_16 : decode cL_play 16 = .ok (.ireturn, 1) := by decide +kernel
theorem dL_play_17 : decode cL_play 17 = .ok (.iconst 0, 1) := by decide +kernel
theorem dL_play_18 : decode cL_play 18 = .ok (.ireturn, 1) := by decide +kernel
theorem dL_goods_0 : decode cL_goods 0 = .ok (.aload_n 3, 1) := by decide +kernel
theorem dL_goods_1 : decode cL_goods 1 = .ok (.iconst 0, 1) := by decide +kernel
theorem dL_goods_2 : decode cL_goods 2 = .ok (.aload_n 0, 1) := by decide +kernel
theorem dL_goods_3 : decode cL_goods 3 = .ok (.iload_n 1, 1) := by decide +kernel
theorem dL_goods_4 : decode cL_goods 4 = .ok (.iload_n 2, 1) := by decide +kernel
theorem dL_goods_5 : decode cL_goods 5 = .ok (.invokevirtual 32, 3) := by decide +kernel
theorem dL_goods_8 : decode cL_goods 8 = .ok (.i2l, 1) := by decide +kernel
theorem dL_goods_9 : decode cL_goods 9 = .ok (.lastore, 1) := by decide +kernel
theorem dL_goods_10 : decode cL_goods 10 = .ok (.goto 11, 3) := by decide +kernel
theorem dL_goods_13 : decode cL_goods 13 = .ok (.astore 4, 2) := by decide +kernel
theorem dL_goods_15 : decode cL_goods 15 = .ok (.iconst 1, 1) := by decide +kernel
theorem dL_goods_16 : decode cL_goods 16 = .ok (.ireturn, 1) := by decide +kernel
theorem dL_goods_17 : decode cL_goods 17 = .ok (.astore 4, 2) := by decide +kernel
theorem dL_goods_19 : decode cL_goods 19 = .ok (.iconst 2, 1) := by decide +kernel
theorem dL_goods_20 : decode cL_goods 20 = .ok (.ireturn, 1) := by decide +kernel
theorem dL_goods_21 : decode cL_goods 21 = .ok (.iconst 0, 1) := by decide +kernel
theorem dL_goods_22 : decode cL_goods 22 = .ok (.ireturn, 1) := by decide +kernel
theorem dL_player_0 : decode cL_player 0 = .ok (.aload_n 3, 1) := by decide +kernel
theorem dL_player_1 : decode cL_player 1 = .ok (.iconst 0, 1) := by decide +kernel
theorem dL_player_2 : decode cL_player 2 = .ok (.aload_n 0, 1) := by decide +kernel
theorem dL_player_3 : decode cL_player 3 = .ok (.iload_n 1, 1) := by decide +kernel
theorem dL_player_4 : decode cL_player 4 = .ok (.iload_n 2, 1) := by decide +kernel
theorem dL_player_5 : decode cL_player 5 = .ok (.invokevirtual 35, 3) := by decide +kernel
theorem dL_player_8 : decode cL_player 8 = .ok (.i2l, 1) := by decide +kernel
theorem dL_player_9 : decode cL_player 9 = .ok (.lastore, 1) := by decide +kernel
theorem dL_player_10 : decode cL_player 10 = .ok (.goto 11, 3) := by decide +kernel
theorem dL_player_13 : decode cL_player 13 = .ok (.astore 4, 2) := by decide +kernel
theorem dL_player_15 : decode cL_player 15 = .ok (.iconst 1, 1) := by decide +kernel
theorem dL_player_16 : decode cL_player 16 = .ok (.ireturn, 1) := by decide +kernel
theorem dL_player_17 : decode cL_player 17 = .ok (.astore 4, 2) := by decide +kernel
theorem dL_player_19 : decode cL_player 19 = .ok (.iconst 2, 1) := by decide +kernel
theorem dL_player_20 : decode cL_player 20 = .ok (.ireturn, 1) := by decide +kernel
theorem dL_player_21 : decode cL_player 21 = .ok (.iconst 0, 1) := by decide +kernel
theorem dL_player_22 : decode cL_player 22 = .ok (.ireturn, 1) := by decide +kernel
theorem dL_owner_0 : decode cL_owner 0 = .ok (.aload_n 2, 1) := by decide +kernel
theorem dL_owner_1 : decode cL_owner 1 = .ok (.iconst 0, 1) := by decide +kernel
theorem dL_owner_2 : decode cL_owner 2 = .ok (.aload_n 0, 1) := by decide +kernel
theorem dL_owner_3 : decode cL_owner 3 = .ok (.iload_n 1, 1) := by decide +kernel
theorem dL_owner_4 : decode cL_owner 4 = .ok (.invokevirtual 38, 3) := by decide +kernel
theorem dL_owner_7 : decode cL_owner 7 = .ok (.i2l, 1) := by decide +kernel
theorem dL_owner_8 : decode cL_owner 8 = .ok (.lastore, 1) := by decide +kernel
theorem dL_owner_9 : decode cL_owner 9 = .ok (.goto 6, 3) := by decide +kernel
theorem dL_owner_12 : decode cL_owner 12 = .ok (.astore_n 3, 1) := by decide +kernel
theorem dL_owner_13 : decode cL_owner 13 = .ok (.iconst 1, 1) := by decide +kernel
theorem dL_owner_14 : decode cL_owner 14 = .ok (.ireturn, 1) := by decide +kernel
theorem dL_owner_15 : decode cL_owner 15 = .ok (.iconst 0, 1) := by decide +kernel
theorem dL_owner_16 : decode cL_owner 16 = .ok (.ireturn, 1) := by decide +kernel
theorem dL_space_0 : decode cL_space 0 = .ok (.aload_n 3, 1) := by decide +kernel
theorem dL_space_1 : decode cL_space 1 = .ok (.iconst 0, 1) := by decide +kernel
theorem dL_space_2 : decode cL_space 2 = .ok (.aload_n 0, 1) := by decide +kernel
theorem dL_space_3 : decode cL_space 3 = .ok (.iload_n 1, 1) := by decide +kernel
theorem dL_space_4 : decode cL_space 4 = .ok (.iload_n 2, 1) := by decide +kernel
theorem dL_space_5 : decode cL_space 5 = .ok (.invokevirtual 42, 3) := by decide +kernel
theorem dL_space_8 : decode cL_space 8 = .ok (.i2l, 1) := by decide +kernel
theorem dL_space_9 : decode cL_space 9 = .ok (.lastore, 1) := by decide +kernel
theorem dL_space_10 : decode cL_space 10 = .ok (.goto 11, 3) := by decide +kernel
theorem dL_space_13 : decode cL_space 13 = .ok (.astore 4, 2) := by decide +kernel
theorem dL_space_15 : decode cL_space 15 = .ok (.iconst 1, 1) := by decide +kernel
theorem dL_space_16 : decode cL_space 16 = .ok (.ireturn, 1) := by decide +kernel
theorem dL_space_17 : decode cL_space 17 = .ok (.astore 4, 2) := by decide +kernel
theorem dL_space_19 : decode cL_space 19 = .ok (.iconst 2, 1) := by decide +kernel
theorem dL_space_20 : decode cL_space 20 = .ok (.ireturn, 1) := by decide +kernel
theorem dL_space_21 : decode cL_space 21 = .ok (.iconst 0, 1) := by decide +kernel
theorem dL_space_22 : decode cL_space 22 = .ok (.ireturn, 1) := by decide +kernel
theorem dL_cost_0 : decode cL_cost 0 = .ok (.aload 4, 2) := by decide +kernel
theorem dL_cost_2 : decode cL_cost 2 = .ok (.iconst 0, 1) := by decide +kernel
theorem dL_cost_3 : decode cL_cost 3 = .ok (.aload_n 0, 1) := by decide +kernel
theorem dL_cost_4 : decode cL_cost 4 = .ok (.iload_n 1, 1) := by decide +kernel
theorem dL_cost_5 : decode cL_cost 5 = .ok (.iload_n 2, 1) := by decide +kernel
theorem dL_cost_6 : decode cL_cost 6 = .ok (.iload_n 3, 1) := by decide +kernel
theorem dL_cost_7 : decode cL_cost 7 = .ok (.invokevirtual 45, 3) := by decide +kernel
theorem dL_cost_10 : decode cL_cost 10 = .ok (.i2l, 1) := by decide +kernel
theorem dL_cost_11 : decode cL_cost 11 = .ok (.lastore, 1) := by decide +kernel
theorem dL_cost_12 : decode cL_cost 12 = .ok (.goto 11, 3) := by decide +kernel
theorem dL_cost_15 : decode cL_cost 15 = .ok (.astore 5, 2) := by decide +kernel
theorem dL_cost_17 : decode cL_cost 17 = .ok (.iconst 1, 1) := by decide +kernel
theorem dL_cost_18 : decode cL_cost 18 = .ok (.ireturn, 1) := by decide +kernel
theorem dL_cost_19 : decode cL_cost 19 = .ok (.astore 5, 2) := by decide +kernel
theorem dL_cost_21 : decode cL_cost 21 = .ok (.iconst 2, 1) := by decide +kernel
theorem dL_cost_22 : decode cL_cost 22 = .ok (.ireturn, 1) := by decide +kernel
theorem dL_cost_23 : decode cL_cost 23 = .ok (.iconst 0, 1) := by decide +kernel
theorem dL_cost_24 : decode cL_cost 24 = .ok (.ireturn, 1) := by decide +kernel
theorem dL_need_0 : decode cL_need 0 = .ok (.aload_n 2, 1) := by decide +kernel
theorem dL_need_1 : decode cL_need 1 = .ok (.iconst 0, 1) := by decide +kernel
theorem dL_need_2 : decode cL_need 2 = .ok (.aload_n 0, 1) := by decide +kernel
theorem dL_need_3 : decode cL_need 3 = .ok (.iload_n 1, 1) := by decide +kernel
theorem dL_need_4 : decode cL_need 4 = .ok (.invokevirtual 49, 3) := by decide +kernel
theorem dL_need_7 : decode cL_need 7 = .ok (.i2l, 1) := by decide +kernel
theorem dL_need_8 : decode cL_need 8 = .ok (.lastore, 1) := by decide +kernel
theorem dL_need_9 : decode cL_need 9 = .ok (.goto 6, 3) := by decide +kernel
theorem dL_need_12 : decode cL_need 12 = .ok (.astore_n 3, 1) := by decide +kernel
theorem dL_need_13 : decode cL_need 13 = .ok (.iconst 1, 1) := by decide +kernel
theorem dL_need_14 : decode cL_need 14 = .ok (.ireturn, 1) := by decide +kernel
theorem dL_need_15 : decode cL_need 15 = .ok (.iconst 0, 1) := by decide +kernel
theorem dL_need_16 : decode cL_need 16 = .ok (.ireturn, 1) := by decide +kernel
theorem dL_missing_0 : decode cL_missing 0 = .ok (.aload_n 2, 1) := by decide +kernel
theorem dL_missing_1 : decode cL_missing 1 = .ok (.iconst 0, 1) := by decide +kernel
theorem dL_missing_2 : decode cL_missing 2 = .ok (.aload_n 0, 1) := by decide +kernel
theorem dL_missing_3 : decode cL_missing 3 = .ok (.iload_n 1, 1) := by decide +kernel
theorem dL_missing_4 : decode cL_missing 4 = .ok (.invokevirtual 52, 3) := by decide +kernel
theorem dL_missing_7 : decode cL_missing 7 = .ok (.i2l, 1) := by decide +kernel
theorem dL_missing_8 : decode cL_missing 8 = .ok (.lastore, 1) := by decide +kernel
theorem dL_missing_9 : decode cL_missing 9 = .ok (.goto 6, 3) := by decide +kernel
theorem dL_missing_12 : decode cL_missing 12 = .ok (.astore_n 3, 1) := by decide +kernel
theorem dL_missing_13 : decode cL_missing 13 = .ok (.iconst 1, 1) := by decide +kernel
theorem dL_missing_14 : decode cL_missing 14 = .ok (.ireturn, 1) := by decide +kernel
theorem dL_missing_15 : decode cL_missing 15 = .ok (.iconst 0, 1) := by decide +kernel
theorem dL_missing_16 : decode cL_missing 16 = .ok (.ireturn, 1) := by decide +kernel
theorem dL_score_0 : decode cL_score 0 = .ok (.aload_n 3, 1) := by decide +kernel
theorem dL_score_1 : decode cL_score 1 = .ok (.iconst 0, 1) := by decide +kernel
theorem dL_score_2 : decode cL_score 2 = .ok (.aload_n 0, 1) := by decide +kernel
theorem dL_score_3 : decode cL_score 3 = .ok (.iload_n 1, 1) := by decide +kernel
theorem dL_score_4 : decode cL_score 4 = .ok (.iload_n 2, 1) := by decide +kernel
theorem dL_score_5 : decode cL_score 5 = .ok (.invokevirtual 55, 3) := by decide +kernel
theorem dL_score_8 : decode cL_score 8 = .ok (.i2l, 1) := by decide +kernel
theorem dL_score_9 : decode cL_score 9 = .ok (.lastore, 1) := by decide +kernel
theorem dL_score_10 : decode cL_score 10 = .ok (.goto 11, 3) := by decide +kernel
theorem dL_score_13 : decode cL_score 13 = .ok (.astore 4, 2) := by decide +kernel
theorem dL_score_15 : decode cL_score 15 = .ok (.iconst 1, 1) := by decide +kernel
theorem dL_score_16 : decode cL_score 16 = .ok (.ireturn, 1) := by decide +kernel
theorem dL_score_17 : decode cL_score 17 = .ok (.astore 4, 2) := by decide +kernel
theorem dL_score_19 : decode cL_score 19 = .ok (.iconst 2, 1) := by decide +kernel
theorem dL_score_20 : decode cL_score 20 = .ok (.ireturn, 1) := by decide +kernel
theorem dL_score_21 : decode cL_score 21 = .ok (.iconst 0, 1) := by decide +kernel
theorem dL_score_22 : decode cL_score 22 = .ok (.ireturn, 1) := by decide +kernel
theorem dL_rank_0 : decode cL_rank 0 = .ok (.aload_n 2, 1) := by decide +kernel
theorem dL_rank_1 : decode cL_rank 1 = .ok (.iconst 0, 1) := by decide +kernel
theorem dL_rank_2 : decode cL_rank 2 = .ok (.aload_n 0, 1) := by decide +kernel
theorem dL_rank_3 : decode cL_rank 3 = .ok (.iload_n 1, 1) := by decide +kernel
theorem dL_rank_4 : decode cL_rank 4 = .ok (.invokevirtual 58, 3) := by decide +kernel
theorem dL_rank_7 : decode cL_rank 7 = .ok (.i2l, 1) := by decide +kernel
theorem dL_rank_8 : decode cL_rank 8 = .ok (.lastore, 1) := by decide +kernel
theorem dL_rank_9 : decode cL_rank 9 = .ok (.goto 6, 3) := by decide +kernel
theorem dL_rank_12 : decode cL_rank 12 = .ok (.astore_n 3, 1) := by decide +kernel
theorem dL_rank_13 : decode cL_rank 13 = .ok (.iconst 1, 1) := by decide +kernel
theorem dL_rank_14 : decode cL_rank 14 = .ok (.ireturn, 1) := by decide +kernel
theorem dL_rank_15 : decode cL_rank 15 = .ok (.iconst 0, 1) := by decide +kernel
theorem dL_rank_16 : decode cL_rank 16 = .ok (.ireturn, 1) := by decide +kernel
theorem dL_option_0 : decode cL_option 0 = .ok (.aload_n 2, 1) := by decide +kernel
theorem dL_option_1 : decode cL_option 1 = .ok (.iconst 0, 1) := by decide +kernel
theorem dL_option_2 : decode cL_option 2 = .ok (.aload_n 0, 1) := by decide +kernel
theorem dL_option_3 : decode cL_option 3 = .ok (.iload_n 1, 1) := by decide +kernel
theorem dL_option_4 : decode cL_option 4 = .ok (.invokevirtual 61, 3) := by decide +kernel
theorem dL_option_7 : decode cL_option 7 = .ok (.i2l, 1) := by decide +kernel
theorem dL_option_8 : decode cL_option 8 = .ok (.lastore, 1) := by decide +kernel
theorem dL_option_9 : decode cL_option 9 = .ok (.goto 6, 3) := by decide +kernel
theorem dL_option_12 : decode cL_option 12 = .ok (.astore_n 3, 1) := by decide +kernel
theorem dL_option_13 : decode cL_option 13 = .ok (.iconst 1, 1) := by decide +kernel
theorem dL_option_14 : decode cL_option 14 = .ok (.ireturn, 1) := by decide +kernel
theorem dL_option_15 : decode cL_option 15 = .ok (.iconst 0, 1) := by decide +kernel
theorem dL_option_16 : decode cL_option 16 = .ok (.ireturn, 1) := by decide +kernel
theorem dL_bestScore_0 : decode cL_bestScore 0 = .ok (.aload_n 2, 1) := by decide +kernel
theorem dL_bestScore_1 : decode cL_bestScore 1 = .ok (.iconst 0, 1) := by decide +kernel
theorem dL_bestScore_2 : decode cL_bestScore 2 = .ok (.aload_n 0, 1) := by decide +kernel
theorem dL_bestScore_3 : decode cL_bestScore 3 = .ok (.iload_n 1, 1) := by decide +kernel
theorem dL_bestScore_4 : decode cL_bestScore 4 = .ok (.invokevirtual 64, 3) := by decide +kernel
theorem dL_bestScore_7 : decode cL_bestScore 7 = .ok (.i2l, 1) := by decide +kernel
theorem dL_bestScore_8 : decode cL_bestScore 8 = .ok (.lastore, 1) := by decide +kernel
theorem dL_bestScore_9 : decode cL_bestScore 9 = .ok (.goto 6, 3) := by decide +kernel
theorem dL_bestScore_12 : decode cL_bestScore 12 = .ok (.astore_n 3, 1) := by decide +kernel
theorem dL_bestScore_13 : decode cL_bestScore 13 = .ok (.iconst 1, 1) := by decide +kernel
theorem dL_bestScore_14 : decode cL_bestScore 14 = .ok (.ireturn, 1) := by decide +kernel
theorem dL_bestScore_15 : decode cL_bestScore 15 = .ok (.iconst 0, 1) := by decide +kernel
theorem dL_bestScore_16 : decode cL_bestScore 16 = .ok (.ireturn, 1) := by decide +kernel
theorem dL_bestPlacement_0 : decode cL_bestPlacement 0 = .ok (.aload_n 3, 1) := by decide +kernel
theorem dL_bestPlacement_1 : decode cL_bestPlacement 1 = .ok (.iconst 0, 1) := by decide +kernel
theorem dL_bestPlacement_2 : decode cL_bestPlacement 2 = .ok (.aload_n 0, 1) := by decide +kernel
theorem dL_bestPlacement_3 : decode cL_bestPlacement 3 = .ok (.iload_n 1, 1) := by decide +kernel
theorem dL_bestPlacement_4 : decode cL_bestPlacement 4 = .ok (.iload_n 2, 1) := by decide +kernel
theorem dL_bestPlacement_5 : decode cL_bestPlacement 5 = .ok (.invokevirtual 67, 3) := by decide +kernel
theorem dL_bestPlacement_8 : decode cL_bestPlacement 8 = .ok (.i2l, 1) := by decide +kernel
theorem dL_bestPlacement_9 : decode cL_bestPlacement 9 = .ok (.lastore, 1) := by decide +kernel
theorem dL_bestPlacement_10 : decode cL_bestPlacement 10 = .ok (.goto 7, 3) := by decide +kernel
theorem dL_bestPlacement_13 : decode cL_bestPlacement 13 = .ok (.astore 4, 2) := by decide +kernel
theorem dL_bestPlacement_15 : decode cL_bestPlacement 15 = .ok (.iconst 1, 1) := by decide +kernel
theorem dL_bestPlacement_16 : decode cL_bestPlacement 16 = .ok (.ireturn, 1) := by decide +kernel
theorem dL_bestPlacement_17 : decode cL_bestPlacement 17 = .ok (.iconst 0, 1) := by decide +kernel
theorem dL_bestPlacement_18 : decode cL_bestPlacement 18 = .ok (.ireturn, 1) := by decide +kernel
theorem dL_move_0 : decode cL_move 0 = .ok (.aload_n 3, 1) := by decide +kernel
theorem dL_move_1 : decode cL_move 1 = .ok (.iconst 0, 1) := by decide +kernel
theorem dL_move_2 : decode cL_move 2 = .ok (.aload_n 0, 1) := by decide +kernel
theorem dL_move_3 : decode cL_move 3 = .ok (.iload_n 1, 1) := by decide +kernel
theorem dL_move_4 : decode cL_move 4 = .ok (.iload_n 2, 1) := by decide +kernel
theorem dL_move_5 : decode cL_move 5 = .ok (.invokevirtual 70, 3) := by decide +kernel
theorem dL_move_8 : decode cL_move 8 = .ok (.i2l, 1) := by decide +kernel
theorem dL_move_9 : decode cL_move 9 = .ok (.lastore, 1) := by decide +kernel
theorem dL_move_10 : decode cL_move 10 = .ok (.goto 11, 3) := by decide +kernel
theorem dL_move_13 : decode cL_move 13 = .ok (.astore 4, 2) := by decide +kernel
theorem dL_move_15 : decode cL_move 15 = .ok (.iconst 1, 1) := by decide +kernel
theorem dL_move_16 : decode cL_move 16 = .ok (.ireturn, 1) := by decide +kernel
theorem dL_move_17 : decode cL_move 17 = .ok (.astore 4, 2) := by decide +kernel
theorem dL_move_19 : decode cL_move 19 = .ok (.iconst 2, 1) := by decide +kernel
theorem dL_move_20 : decode cL_move 20 = .ok (.ireturn, 1) := by decide +kernel
theorem dL_move_21 : decode cL_move 21 = .ok (.iconst 0, 1) := by decide +kernel
theorem dL_move_22 : decode cL_move 22 = .ok (.ireturn, 1) := by decide +kernel
theorem dL_undo_0 : decode cL_undo 0 = .ok (.aload_n 1, 1) := by decide +kernel
theorem dL_undo_1 : decode cL_undo 1 = .ok (.iconst 0, 1) := by decide +kernel
theorem dL_undo_2 : decode cL_undo 2 = .ok (.aload_n 0, 1) := by decide +kernel
theorem dL_undo_3 : decode cL_undo 3 = .ok (.invokevirtual 73, 3) := by decide +kernel
theorem dL_undo_6 : decode cL_undo 6 = .ok (.i2l, 1) := by decide +kernel
theorem dL_undo_7 : decode cL_undo 7 = .ok (.lastore, 1) := by decide +kernel
theorem dL_undo_8 : decode cL_undo 8 = .ok (.goto 6, 3) := by decide +kernel
theorem dL_undo_11 : decode cL_undo 11 = .ok (.astore_n 2, 1) := by decide +kernel
theorem dL_undo_12 : decode cL_undo 12 = .ok (.iconst 1, 1) := by decide +kernel
theorem dL_undo_13 : decode cL_undo 13 = .ok (.ireturn, 1) := by decide +kernel
theorem dL_undo_14 : decode cL_undo 14 = .ok (.iconst 0, 1) := by decide +kernel
theorem dL_undo_15 : decode cL_undo 15 = .ok (.ireturn, 1) := by decide +kernel
theorem dL_law_0 : decode cL_law 0 = .ok (.new 8, 3) := by decide +kernel
theorem dL_law_3 : decode cL_law 3 = .ok (.dup, 1) := by decide +kernel
theorem dL_law_4 : decode cL_law 4 = .ok (.invokespecial 76, 3) := by decide +kernel
theorem dL_law_7 : decode cL_law 7 = .ok (.astore_n 1, 1) := by decide +kernel
theorem dL_law_8 : decode cL_law 8 = .ok (.new 77, 3) := by decide +kernel
theorem dL_law_11 : decode cL_law 11 = .ok (.dup, 1) := by decide +kernel
theorem dL_law_12 : decode cL_law 12 = .ok (.invokespecial 79, 3) := by decide +kernel
theorem dL_law_15 : decode cL_law 15 = .ok (.astore_n 2, 1) := by decide +kernel
theorem dL_law_16 : decode cL_law 16 = .ok (.iconst 1, 1) := by decide +kernel
theorem dL_law_17 : decode cL_law 17 = .ok (.newarray .long, 2) := by decide +kernel
theorem dL_law_19 : decode cL_law 19 = .ok (.astore_n 3, 1) := by decide +kernel
theorem dL_law_20 : decode cL_law 20 = .ok (.iconst 0, 1) := by decide +kernel
theorem dL_law_21 : decode cL_law 21 = .ok (.istore 4, 2) := by decide +kernel
theorem dL_law_23 : decode cL_law 23 = .ok (.iload 4, 2) := by decide +kernel
theorem dL_law_25 : decode cL_law 25 = .ok (.aload_n 0, 1) := by decide +kernel
theorem dL_law_26 : decode cL_law 26 = .ok (.arraylength, 1) := by decide +kernel
theorem dL_law_27 : decode cL_law 27 = .ok (.iconst 4, 1) := by decide +kernel
theorem dL_law_28 : decode cL_law 28 = .ok (.isub, 1) := by decide +kernel
theorem dL_law_29 : decode cL_law 29 = .ok (.if_icmp .gt 1409, 3) := by decide +kernel
theorem dL_law_32 : decode cL_law 32 = .ok (.aload_n 0, 1) := by decide +kernel
theorem dL_law_33 : decode cL_law 33 = .ok (.iload 4, 2) := by decide +kernel
theorem dL_law_35 : decode cL_law 35 = .ok (.iaload, 1) := by decide +kernel
theorem dL_law_36 : decode cL_law 36 = .ok (.bipush 31, 2) := by decide +kernel
theorem dL_law_38 : decode cL_law 38 = .ok (.iand, 1) := by decide +kernel
theorem dL_law_39 : decode cL_law 39 = .ok (.tableswitch 1393 0 25 #[117, 185, 253, 321, 365, 433, 446, 459, 472, 485, 553, 621, 677, 745, 825, 881, 937, 1005, 1061, 1074, 1130, 1186, 1254, 1267, 1335, 1379], 117) := by decide +kernel
theorem dL_law_156 : decode cL_law 156 = .ok (.aload_n 1, 1) := by decide +kernel
theorem dL_law_157 : decode cL_law 157 = .ok (.aload_n 0, 1) := by decide +kernel
theorem dL_law_158 : decode cL_law 158 = .ok (.iload 4, 2) := by decide +kernel
theorem dL_law_160 : decode cL_law 160 = .ok (.iconst 1, 1) := by decide +kernel
theorem dL_law_161 : decode cL_law 161 = .ok (.iadd, 1) := by decide +kernel
theorem dL_law_162 : decode cL_law 162 = .ok (.iaload, 1) := by decide +kernel
theorem dL_law_163 : decode cL_law 163 = .ok (.aload_n 0, 1) := by decide +kernel
theorem dL_law_164 : decode cL_law 164 = .ok (.iload 4, 2) := by decide +kernel
theorem dL_law_166 : decode cL_law 166 = .ok (.iconst 2, 1) := by decide +kernel
theorem dL_law_167 : decode cL_law 167 = .ok (.iadd, 1) := by decide +kernel
theorem dL_law_168 : decode cL_law 168 = .ok (.iaload, 1) := by decide +kernel
theorem dL_law_169 : decode cL_law 169 = .ok (.aload_n 3, 1) := by decide +kernel
theorem dL_law_170 : decode cL_law 170 = .ok (.invokestatic 80, 3) := by decide +kernel
theorem dL_law_173 : decode cL_law 173 = .ok (.istore 5, 2) := by decide +kernel
theorem dL_law_175 : decode cL_law 175 = .ok (.aload_n 2, 1) := by decide +kernel
theorem dL_law_176 : decode cL_law 176 = .ok (.aload_n 0, 1) := by decide +kernel
theorem dL_law_177 : decode cL_law 177 = .ok (.iload 4, 2) := by decide +kernel
theorem dL_law_179 : decode cL_law 179 = .ok (.iconst 1, 1) := by decide +kernel
theorem dL_law_180 : decode cL_law 180 = .ok (.iadd, 1) := by decide +kernel
theorem dL_law_181 : decode cL_law 181 = .ok (.iaload, 1) := by decide +kernel
theorem dL_law_182 : decode cL_law 182 = .ok (.aload_n 0, 1) := by decide +kernel
theorem dL_law_183 : decode cL_law 183 = .ok (.iload 4, 2) := by decide +kernel
theorem dL_law_185 : decode cL_law 185 = .ok (.iconst 2, 1) := by decide +kernel
theorem dL_law_186 : decode cL_law 186 = .ok (.iadd, 1) := by decide +kernel
theorem dL_law_187 : decode cL_law 187 = .ok (.iaload, 1) := by decide +kernel
theorem dL_law_188 : decode cL_law 188 = .ok (.invokevirtual 85, 3) := by decide +kernel
theorem dL_law_191 : decode cL_law 191 = .ok (.istore 6, 2) := by decide +kernel
theorem dL_law_193 : decode cL_law 193 = .ok (.aload_n 2, 1) := by decide +kernel
theorem dL_law_194 : decode cL_law 194 = .ok (.invokevirtual 86, 3) := by decide +kernel
theorem dL_law_197 : decode cL_law 197 = .ok (.iload 5, 2) := by decide +kernel
theorem dL_law_199 : decode cL_law 199 = .ok (.if_icmp .eq 5, 3) := by decide +kernel
theorem dL_law_202 : decode cL_law 202 = .ok (.iconst 0, 1) := by decide +kernel
theorem dL_law_203 : decode cL_law 203 = .ok (.ireturn, 1) := by decide +kernel
theorem dL_law_204 : decode cL_law 204 = .ok (.iload 5, 2) := by decide +kernel
theorem dL_law_206 : decode cL_law 206 = .ok (.ifCond .ne 15, 3) := by decide +kernel
theorem dL_law_209 : decode cL_law 209 = .ok (.aload_n 3, 1) := by decide +kernel
theorem dL_law_210 : decode cL_law 210 = .ok (.iconst 0, 1) := by decide +kernel
theorem dL_law_211 : decode cL_law 211 = .ok (.laload, 1) := by decide +kernel
theorem dL_law_212 : decode cL_law 212 = .ok (.iload 6, 2) := by decide +kernel
theorem dL_law_214 : decode cL_law 214 = .ok (.i2l, 1) := by decide +kernel
theorem dL_law_215 : decode cL_law 215 = .ok (.lcmp, 1) := by decide +kernel
theorem dL_law_216 : decode cL_law 216 = .ok (.ifCond .eq 5, 3) := by decide +kernel
theorem dL_law_219 : decode cL_law 219 = .ok (.iconst 0, 1) := by decide +kernel
theorem dL_law_220 : decode cL_law 220 = .ok (.ireturn, 1) := by decide +kernel
theorem dL_law_221 : decode cL_law 221 = .ok (.goto 1211, 3) := by decide +kernel
theorem dL_law_224 : decode cL_law 224 = .ok (.aload_n 1, 1) := by decide +kernel
theorem dL_law_225 : decode cL_law 225 = .ok (.aload_n 0, 1) := by decide +kernel
theorem dL_law_226 : decode cL_law 226 = .ok (.iload 4, 2) := by decide +kernel
theorem dL_law_228 : decode cL_law 228 = .ok (.iconst 1, 1) := by decide +kernel
theorem dL_law_229 : decode cL_law 229 = .ok (.iadd, 1) := by decide +kernel
theorem dL_law_230 : decode cL_law 230 = .ok (.iaload, 1) := by decide +kernel
theorem dL_law_231 : decode cL_law 231 = .ok (.aload_n 0, 1) := by decide +kernel
theorem dL_law_232 : decode cL_law 232 = .ok (.iload 4, 2) := by decide +kernel
theorem dL_law_234 : decode cL_law 234 = .ok (.iconst 2, 1) := by decide +kernel
theorem dL_law_235 : decode cL_law 235 = .ok (.iadd, 1) := by decide +kernel
theorem dL_law_236 : decode cL_law 236 = .ok (.iaload, 1) := by decide +kernel
theorem dL_law_237 : decode cL_law 237 = .ok (.aload_n 3, 1) := by decide +kernel
theorem dL_law_238 : decode cL_law 238 = .ok (.invokestatic 89, 3) := by decide +kernel
theorem dL_law_241 : decode cL_law 241 = .ok (.istore 5, 2) := by decide +kernel
theorem dL_law_243 : decode cL_law 243 = .ok (.aload_n 2, 1) := by decide +kernel
theorem dL_law_244 : decode cL_law 244 = .ok (.aload_n 0, 1) := by decide +kernel
theorem dL_law_245 : decode cL_law 245 = .ok (.iload 4, 2) := by decide +kernel
theorem dL_law_247 : decode cL_law 247 = .ok (.iconst 1, 1) := by decide +kernel
theorem dL_law_248 : decode cL_law 248 = .ok (.iadd, 1) := by decide +kernel
theorem dL_law_249 : decode cL_law 249 = .ok (.iaload, 1) := by decide +kernel
theorem dL_law_250 : decode cL_law 250 = .ok (.aload_n 0, 1) := by decide +kernel
theorem dL_law_251 : decode cL_law 251 = .ok (.iload 4, 2) := by decide +kernel
theorem dL_law_253 : decode cL_law 253 = .ok (.iconst 2, 1) := by decide +kernel
theorem dL_law_254 : decode cL_law 254 = .ok (.iadd, 1) := by decide +kernel
theorem dL_law_255 : decode cL_law 255 = .ok (.iaload, 1) := by decide +kernel
theorem dL_law_256 : decode cL_law 256 = .ok (.invokevirtual 91, 3) := by decide +kernel
theorem dL_law_259 : decode cL_law 259 = .ok (.istore 6, 2) := by decide +kernel
theorem dL_law_261 : decode cL_law 261 = .ok (.aload_n 2, 1) := by decide +kernel
theorem dL_law_262 : decode cL_law 262 = .ok (.invokevirtual 86, 3) := by decide +kernel
theorem dL_law_265 : decode cL_law 265 = .ok (.iload 5, 2) := by decide +kernel
theorem dL_law_267 : decode cL_law 267 = .ok (.if_icmp .eq 5, 3) := by decide +kernel
theorem dL_law_270 : decode cL_law 270 = .ok (.iconst 0, 1) := by decide +kernel
theorem dL_law_271 : decode cL_law 271 = .ok (.ireturn, 1) := by decide +kernel
theorem dL_law_272 : decode cL_law 272 = .ok (.iload 5, 2) := by decide +kernel
theorem dL_law_274 : decode cL_law 274 = .ok (.ifCond .ne 15, 3) := by decide +kernel
theorem dL_law_277 : decode cL_law 277 = .ok (.aload_n 3, 1) := by decide +kernel
theorem dL_law_278 : decode cL_law 278 = .ok (.iconst 0, 1) := by decide +kernel
theorem dL_law_279 : decode cL_law 279 = .ok (.laload, 1) := by decide +kernel
theorem dL_law_280 : decode cL_law 280 = .ok (.iload 6, 2) := by decide +kernel
theorem dL_law_282 : decode cL_law 282 = .ok (.i2l, 1) := by decide +kernel
theorem dL_law_283 : decode cL_law 283 = .ok (.lcmp, 1) := by decide +kernel
theorem dL_law_284 : decode cL_law 284 = .ok (.ifCond .eq 5, 3) := by decide +kernel
theorem dL_law_287 : decode cL_law 287 = .ok (.iconst 0, 1) := by decide +kernel
theorem dL_law_288 : decode cL_law 288 = .ok (.ireturn, 1) := by decide +kernel
theorem dL_law_289 : decode cL_law 289 = .ok (.goto 1143, 3) := by decide +kernel
theorem dL_law_292 : decode cL_law 292 = .ok (.aload_n 1, 1) := by decide +kernel
theorem dL_law_293 : decode cL_law 293 = .ok (.aload_n 0, 1) := by decide +kernel
theorem dL_law_294 : decode cL_law 294 = .ok (.iload 4, 2) := by decide +kernel
theorem dL_law_296 : decode cL_law 296 = .ok (.iconst 1, 1) := by decide +kernel
theorem dL_law_297 : decode cL_law 297 = .ok (.iadd, 1) := by decide +kernel
theorem dL_law_298 : decode cL_law 298 = .ok (.iaload, 1) := by decide +kernel
theorem dL_law_299 : decode cL_law 299 = .ok (.aload_n 0, 1) := by decide +kernel
theorem dL_law_300 : decode cL_law 300 = .ok (.iload 4, 2) := by decide +kernel
theorem dL_law_302 : decode cL_law 302 = .ok (.iconst 2, 1) := by decide +kernel
theorem dL_law_303 : decode cL_law 303 = .ok (.iadd, 1) := by decide +kernel
theorem dL_law_304 : decode cL_law 304 = .ok (.iaload, 1) := by decide +kernel
theorem dL_law_305 : decode cL_law 305 = .ok (.aload_n 3, 1) := by decide +kernel
theorem dL_law_306 : decode cL_law 306 = .ok (.invokestatic 92, 3) := by decide +kernel
theorem dL_law_309 : decode cL_law 309 = .ok (.istore 5, 2) := by decide +kernel
theorem dL_law_311 : decode cL_law 311 = .ok (.aload_n 2, 1) := by decide +kernel
theorem dL_law_312 : decode cL_law 312 = .ok (.aload_n 0, 1) := by decide +kernel
theorem dL_law_313 : decode cL_law 313 = .ok (.iload 4, 2) := by decide +kernel
theorem dL_law_315 : decode cL_law 315 = .ok (.iconst 1, 1) := by decide +kernel
theorem dL_law_316 : decode cL_law 316 = .ok (.iadd, 1) := by decide +kernel
theorem dL_law_317 : decode cL_law 317 = .ok (.iaload, 1) := by decide +kernel
theorem dL_law_318 : decode cL_law 318 = .ok (.aload_n 0, 1) := by decide +kernel
theorem dL_law_319 : decode cL_law 319 = .ok (.iload 4, 2) := by decide +kernel
theorem dL_law_321 : decode cL_law 321 = .ok (.iconst 2, 1) := by decide +kernel
theorem dL_law_322 : decode cL_law 322 = .ok (.iadd, 1) := by decide +kernel
theorem dL_law_323 : decode cL_law 323 = .ok (.iaload, 1) := by decide +kernel
theorem dL_law_324 : decode cL_law 324 = .ok (.invokevirtual 94, 3) := by decide +kernel
theorem dL_law_327 : decode cL_law 327 = .ok (.istore 6, 2) := by decide +kernel
theorem dL_law_329 : decode cL_law 329 = .ok (.aload_n 2, 1) := by decide +kernel
theorem dL_law_330 : decode cL_law 330 = .ok (.invokevirtual 86, 3) := by decide +kernel
theorem dL_law_333 : decode cL_law 333 = .ok (.iload 5, 2) := by decide +kernel
theorem dL_law_335 : decode cL_law 335 = .ok (.if_icmp .eq 5, 3) := by decide +kernel
theorem dL_law_338 : decode cL_law 338 = .ok (.iconst 0, 1) := by decide +kernel
theorem dL_law_339 : decode cL_law 339 = .ok (.ireturn, 1) := by decide +kernel
theorem dL_law_340 : decode cL_law 340 = .ok (.iload 5, 2) := by decide +kernel
theorem dL_law_342 : decode cL_law 342 = .ok (.ifCond .ne 15, 3) := by decide +kernel
theorem dL_law_345 : decode cL_law 345 = .ok (.aload_n 3, 1) := by decide +kernel
theorem dL_law_346 : decode cL_law 346 = .ok (.iconst 0, 1) := by decide +kernel
theorem dL_law_347 : decode cL_law 347 = .ok (.laload, 1) := by decide +kernel
theorem dL_law_348 : decode cL_law 348 = .ok (.iload 6, 2) := by decide +kernel
theorem dL_law_350 : decode cL_law 350 = .ok (.i2l, 1) := by decide +kernel
theorem dL_law_351 : decode cL_law 351 = .ok (.lcmp, 1) := by decide +kernel
theorem dL_law_352 : decode cL_law 352 = .ok (.ifCond .eq 5, 3) := by decide +kernel
theorem dL_law_355 : decode cL_law 355 = .ok (.iconst 0, 1) := by decide +kernel
theorem dL_law_356 : decode cL_law 356 = .ok (.ireturn, 1) := by decide +kernel
theorem dL_law_357 : decode cL_law 357 = .ok (.goto 1075, 3) := by decide +kernel
theorem dL_law_360 : decode cL_law 360 = .ok (.aload_n 1, 1) := by decide +kernel
theorem dL_law_361 : decode cL_law 361 = .ok (.aload_n 3, 1) := by decide +kernel
theorem dL_law_362 : decode cL_law 362 = .ok (.invokestatic 95, 3) := by decide +kernel
theorem dL_law_365 : decode cL_law 365 = .ok (.istore 5, 2) := by decide +kernel
theorem dL_law_367 : decode cL_law 367 = .ok (.aload_n 2, 1) := by decide +kernel
theorem dL_law_368 : decode cL_law 368 = .ok (.invokevirtual 98, 3) := by decide +kernel
theorem dL_law_371 : decode cL_law 371 = .ok (.istore 6, 2) := by decide +kernel
theorem dL_law_373 : decode cL_law 373 = .ok (.aload_n 2, 1) := by decide +kernel
theorem dL_law_374 : decode cL_law 374 = .ok (.invokevirtual 86, 3) := by decide +kernel
theorem dL_law_377 : decode cL_law 377 = .ok (.iload 5, 2) := by decide +kernel
theorem dL_law_379 : decode cL_law 379 = .ok (.if_icmp .eq 5, 3) := by decide +kernel
theorem dL_law_382 : decode cL_law 382 = .ok (.iconst 0, 1) := by decide +kernel
theorem dL_law_383 : decode cL_law 383 = .ok (.ireturn, 1) := by decide +kernel
theorem dL_law_384 : decode cL_law 384 = .ok (.iload 5, 2) := by decide +kernel
theorem dL_law_386 : decode cL_law 386 = .ok (.ifCond .ne 15, 3) := by decide +kernel
theorem dL_law_389 : decode cL_law 389 = .ok (.aload_n 3, 1) := by decide +kernel
theorem dL_law_390 : decode cL_law 390 = .ok (.iconst 0, 1) := by decide +kernel
theorem dL_law_391 : decode cL_law 391 = .ok (.laload, 1) := by decide +kernel
theorem dL_law_392 : decode cL_law 392 = .ok (.iload 6, 2) := by decide +kernel
theorem dL_law_394 : decode cL_law 394 = .ok (.i2l, 1) := by decide +kernel
theorem dL_law_395 : decode cL_law 395 = .ok (.lcmp, 1) := by decide +kernel
theorem dL_law_396 : decode cL_law 396 = .ok (.ifCond .eq 5, 3) := by decide +kernel
theorem dL_law_399 : decode cL_law 399 = .ok (.iconst 0, 1) := by decide +kernel
theorem dL_law_400 : decode cL_law 400 = .ok (.ireturn, 1) := by decide +kernel
theorem dL_law_401 : decode cL_law 401 = .ok (.goto 1031, 3) := by decide +kernel
theorem dL_law_404 : decode cL_law 404 = .ok (.aload_n 1, 1) := by decide +kernel
theorem dL_law_405 : decode cL_law 405 = .ok (.aload_n 0, 1) := by decide +kernel
theorem dL_law_406 : decode cL_law 406 = .ok (.iload 4, 2) := by decide +kernel
theorem dL_law_408 : decode cL_law 408 = .ok (.iconst 1, 1) := by decide +kernel
theorem dL_law_409 : decode cL_law 409 = .ok (.iadd, 1) := by decide +kernel
theorem dL_law_410 : decode cL_law 410 = .ok (.iaload, 1) := by decide +kernel
theorem dL_law_411 : decode cL_law 411 = .ok (.aload_n 0, 1) := by decide +kernel
theorem dL_law_412 : decode cL_law 412 = .ok (.iload 4, 2) := by decide +kernel
theorem dL_law_414 : decode cL_law 414 = .ok (.iconst 2, 1) := by decide +kernel
theorem dL_law_415 : decode cL_law 415 = .ok (.iadd, 1) := by decide +kernel
theorem dL_law_416 : decode cL_law 416 = .ok (.iaload, 1) := by decide +kernel
theorem dL_law_417 : decode cL_law 417 = .ok (.aload_n 3, 1) := by decide +kernel
theorem dL_law_418 : decode cL_law 418 = .ok (.invokestatic 99, 3) := by decide +kernel
theorem dL_law_421 : decode cL_law 421 = .ok (.istore 5, 2) := by decide +kernel
theorem dL_law_423 : decode cL_law 423 = .ok (.aload_n 2, 1) := by decide +kernel
theorem dL_law_424 : decode cL_law 424 = .ok (.aload_n 0, 1) := by decide +kernel
theorem dL_law_425 : decode cL_law 425 = .ok (.iload 4, 2) := by decide +kernel
theorem dL_law_427 : decode cL_law 427 = .ok (.iconst 1, 1) := by decide +kernel
theorem dL_law_428 : decode cL_law 428 = .ok (.iadd, 1) := by decide +kernel
theorem dL_law_429 : decode cL_law 429 = .ok (.iaload, 1) := by decide +kernel
theorem dL_law_430 : decode cL_law 430 = .ok (.aload_n 0, 1) := by decide +kernel
theorem dL_law_431 : decode cL_law 431 = .ok (.iload 4, 2) := by decide +kernel
theorem dL_law_433 : decode cL_law 433 = .ok (.iconst 2, 1) := by decide +kernel
theorem dL_law_434 : decode cL_law 434 = .ok (.iadd, 1) := by decide +kernel
theorem dL_law_435 : decode cL_law 435 = .ok (.iaload, 1) := by decide +kernel
theorem dL_law_436 : decode cL_law 436 = .ok (.invokevirtual 101, 3) := by decide +kernel
theorem dL_law_439 : decode cL_law 439 = .ok (.istore 6, 2) := by decide +kernel
theorem dL_law_441 : decode cL_law 441 = .ok (.aload_n 2, 1) := by decide +kernel
theorem dL_law_442 : decode cL_law 442 = .ok (.invokevirtual 86, 3) := by decide +kernel
theorem dL_law_445 : decode cL_law 445 = .ok (.iload 5, 2) := by decide +kernel
theorem dL_law_447 : decode cL_law 447 = .ok (.if_icmp .eq 5, 3) := by decide +kernel
theorem dL_law_450 : decode cL_law 450 = .ok (.iconst 0, 1) := by decide +kernel
theorem dL_law_451 : decode cL_law 451 = .ok (.ireturn, 1) := by decide +kernel
theorem dL_law_452 : decode cL_law 452 = .ok (.iload 5, 2) := by decide +kernel
theorem dL_law_454 : decode cL_law 454 = .ok (.ifCond .ne 15, 3) := by decide +kernel
theorem dL_law_457 : decode cL_law 457 = .ok (.aload_n 3, 1) := by decide +kernel
theorem dL_law_458 : decode cL_law 458 = .ok (.iconst 0, 1) := by decide +kernel
theorem dL_law_459 : decode cL_law 459 = .ok (.laload, 1) := by decide +kernel
theorem dL_law_460 : decode cL_law 460 = .ok (.iload 6, 2) := by decide +kernel
theorem dL_law_462 : decode cL_law 462 = .ok (.i2l, 1) := by decide +kernel
theorem dL_law_463 : decode cL_law 463 = .ok (.lcmp, 1) := by decide +kernel
theorem dL_law_464 : decode cL_law 464 = .ok (.ifCond .eq 5, 3) := by decide +kernel
theorem dL_law_467 : decode cL_law 467 = .ok (.iconst 0, 1) := by decide +kernel
theorem dL_law_468 : decode cL_law 468 = .ok (.ireturn, 1) := by decide +kernel
theorem dL_law_469 : decode cL_law 469 = .ok (.goto 963, 3) := by decide +kernel
theorem dL_law_472 : decode cL_law 472 = .ok (.aload_n 1, 1) := by decide +kernel
theorem dL_law_473 : decode cL_law 473 = .ok (.invokevirtual 102, 3) := by decide +kernel
theorem dL_law_476 : decode cL_law 476 = .ok (.aload_n 2, 1) := by decide +kernel
theorem dL_law_477 : decode cL_law 477 = .ok (.invokevirtual 105, 3) := by decide +kernel
theorem dL_law_480 : decode cL_law 480 = .ok (.if_icmp .eq 952, 3) := by decide +kernel
theorem dL_law_483 : decode cL_law 483 = .ok (.iconst 0, 1) := by decide +kernel
theorem dL_law_484 : decode cL_law 484 = .ok (.ireturn, 1) := by decide +kernel
theorem dL_law_485 : decode cL_law 485 = .ok (.aload_n 1, 1) := by decide +kernel
theorem dL_law_486 : decode cL_law 486 = .ok (.invokevirtual 106, 3) := by decide +kernel
theorem dL_law_489 : decode cL_law 489 = .ok (.aload_n 2, 1) := by decide +kernel
theorem dL_law_490 : decode cL_law 490 = .ok (.invokevirtual 109, 3) := by decide +kernel
theorem dL_law_493 : decode cL_law 493 = .ok (.if_icmp .eq 939, 3) := by decide +kernel
theorem dL_law_496 : decode cL_law 496 = .ok (.iconst 0, 1) := by decide +kernel
theorem dL_law_497 : decode cL_law 497 = .ok (.ireturn, 1) := by decide +kernel
theorem dL_law_498 : decode cL_law 498 = .ok (.aload_n 1, 1) := by decide +kernel
theorem dL_law_499 : decode cL_law 499 = .ok (.invokevirtual 110, 3) := by decide +kernel
theorem dL_law_502 : decode cL_law 502 = .ok (.aload_n 2, 1) := by decide +kernel
theorem dL_law_503 : decode cL_law 503 = .ok (.invokevirtual 113, 3) := by decide +kernel
theorem dL_law_506 : decode cL_law 506 = .ok (.if_icmp .eq 926, 3) := by decide +kernel
theorem dL_law_509 : decode cL_law 509 = .ok (.iconst 0, 1) := by decide +kernel
theorem dL_law_510 : decode cL_law 510 = .ok (.ireturn, 1) := by decide +kernel
theorem dL_law_511 : decode cL_law 511 = .ok (.aload_n 1, 1) := by decide +kernel
theorem dL_law_512 : decode cL_law 512 = .ok (.invokevirtual 114, 3) := by decide +kernel
theorem dL_law_515 : decode cL_law 515 = .ok (.aload_n 2, 1) := by decide +kernel
theorem dL_law_516 : decode cL_law 516 = .ok (.invokevirtual 117, 3) := by decide +kernel
theorem dL_law_519 : decode cL_law 519 = .ok (.if_icmp .eq 913, 3) := by decide +kernel
theorem dL_law_522 : decode cL_law 522 = .ok (.iconst 0, 1) := by decide +kernel
theorem dL_law_523 : decode cL_law 523 = .ok (.ireturn, 1) := by decide +kernel
theorem dL_law_524 : decode cL_law 524 = .ok (.aload_n 1, 1) := by decide +kernel
theorem dL_law_525 : decode cL_law 525 = .ok (.aload_n 0, 1) := by decide +kernel
theorem dL_law_526 : decode cL_law 526 = .ok (.iload 4, 2) := by decide +kernel
theorem dL_law_528 : decode cL_law 528 = .ok (.iconst 1, 1) := by decide +kernel
theorem dL_law_529 : decode cL_law 529 = .ok (.iadd, 1) := by decide +kernel
theorem dL_law_530 : decode cL_law 530 = .ok (.iaload, 1) := by decide +kernel
theorem dL_law_531 : decode cL_law 531 = .ok (.aload_n 0, 1) := by decide +kernel
theorem dL_law_532 : decode cL_law 532 = .ok (.iload 4, 2) := by decide +kernel
theorem dL_law_534 : decode cL_law 534 = .ok (.iconst 2, 1) := by decide +kernel
theorem dL_law_535 : decode cL_law 535 = .ok (.iadd, 1) := by decide +kernel
theorem dL_law_536 : decode cL_law 536 = .ok (.iaload, 1) := by decide +kernel
theorem dL_law_537 : decode cL_law 537 = .ok (.aload_n 3, 1) := by decide +kernel
theorem dL_law_538 : decode cL_law 538 = .ok (.invokestatic 118, 3) := by decide +kernel
theorem dL_law_541 : decode cL_law 541 = .ok (.istore 5, 2) := by decide +kernel
theorem dL_law_543 : decode cL_law 543 = .ok (.aload_n 2, 1) := by decide +kernel
theorem dL_law_544 : decode cL_law 544 = .ok (.aload_n 0, 1) := by decide +kernel
theorem dL_law_545 : decode cL_law 545 = .ok (.iload 4, 2) := by decide +kernel
theorem dL_law_547 : decode cL_law 547 = .ok (.iconst 1, 1) := by decide +kernel
theorem dL_law_548 : decode cL_law 548 = .ok (.iadd, 1) := by decide +kernel
theorem dL_law_549 : decode cL_law 549 = .ok (.iaload, 1) := by decide +kernel
theorem dL_law_550 : decode cL_law 550 = .ok (.aload_n 0, 1) := by decide +kernel
theorem dL_law_551 : decode cL_law 551 = .ok (.iload 4, 2) := by decide +kernel
theorem dL_law_553 : decode cL_law 553 = .ok (.iconst 2, 1) := by decide +kernel
theorem dL_law_554 : decode cL_law 554 = .ok (.iadd, 1) := by decide +kernel
theorem dL_law_555 : decode cL_law 555 = .ok (.iaload, 1) := by decide +kernel
theorem dL_law_556 : decode cL_law 556 = .ok (.invokevirtual 120, 3) := by decide +kernel
theorem dL_law_559 : decode cL_law 559 = .ok (.istore 6, 2) := by decide +kernel
theorem dL_law_561 : decode cL_law 561 = .ok (.aload_n 2, 1) := by decide +kernel
theorem dL_law_562 : decode cL_law 562 = .ok (.invokevirtual 86, 3) := by decide +kernel
theorem dL_law_565 : decode cL_law 565 = .ok (.iload 5, 2) := by decide +kernel
theorem dL_law_567 : decode cL_law 567 = .ok (.if_icmp .eq 5, 3) := by decide +kernel
theorem dL_law_570 : decode cL_law 570 = .ok (.iconst 0, 1) := by decide +kernel
theorem dL_law_571 : decode cL_law 571 = .ok (.ireturn, 1) := by decide +kernel
theorem dL_law_572 : decode cL_law 572 = .ok (.iload 5, 2) := by decide +kernel
theorem dL_law_574 : decode cL_law 574 = .ok (.ifCond .ne 15, 3) := by decide +kernel
theorem dL_law_577 : decode cL_law 577 = .ok (.aload_n 3, 1) := by decide +kernel
theorem dL_law_578 : decode cL_law 578 = .ok (.iconst 0, 1) := by decide +kernel
theorem dL_law_579 : decode cL_law 579 = .ok (.laload, 1) := by decide +kernel
theorem dL_law_580 : decode cL_law 580 = .ok (.iload 6, 2) := by decide +kernel
theorem dL_law_582 : decode cL_law 582 = .ok (.i2l, 1) := by decide +kernel
theorem dL_law_583 : decode cL_law 583 = .ok (.lcmp, 1) := by decide +kernel
theorem dL_law_584 : decode cL_law 584 = .ok (.ifCond .eq 5, 3) := by decide +kernel
theorem dL_law_587 : decode cL_law 587 = .ok (.iconst 0, 1) := by decide +kernel
theorem dL_law_588 : decode cL_law 588 = .ok (.ireturn, 1) := by decide +kernel
theorem dL_law_589 : decode cL_law 589 = .ok (.goto 843, 3) := by decide +kernel
theorem dL_law_592 : decode cL_law 592 = .ok (.aload_n 1, 1) := by decide +kernel
theorem dL_law_593 : decode cL_law 593 = .ok (.aload_n 0, 1) := by decide +kernel
theorem dL_law_594 : decode cL_law 594 = .ok (.iload 4, 2) := by decide +kernel
theorem dL_law_596 : decode cL_law 596 = .ok (.iconst 1, 1) := by decide +kernel
theorem dL_law_597 : decode cL_law 597 = .ok (.iadd, 1) := by decide +kernel
theorem dL_law_598 : decode cL_law 598 = .ok (.iaload, 1) := by decide +kernel
theorem dL_law_599 : decode cL_law 599 = .ok (.aload_n 0, 1) := by decide +kernel
theorem dL_law_600 : decode cL_law 600 = .ok (.iload 4, 2) := by decide +kernel
theorem dL_law_602 : decode cL_law 602 = .ok (.iconst 2, 1) := by decide +kernel
theorem dL_law_603 : decode cL_law 603 = .ok (.iadd, 1) := by decide +kernel
theorem dL_law_604 : decode cL_law 604 = .ok (.iaload, 1) := by decide +kernel
theorem dL_law_605 : decode cL_law 605 = .ok (.aload_n 3, 1) := by decide +kernel
theorem dL_law_606 : decode cL_law 606 = .ok (.invokestatic 121, 3) := by decide +kernel
theorem dL_law_609 : decode cL_law 609 = .ok (.istore 5, 2) := by decide +kernel
theorem dL_law_611 : decode cL_law 611 = .ok (.aload_n 2, 1) := by decide +kernel
theorem dL_law_612 : decode cL_law 612 = .ok (.aload_n 0, 1) := by decide +kernel
theorem dL_law_613 : decode cL_law 613 = .ok (.iload 4, 2) := by decide +kernel
theorem dL_law_615 : decode cL_law 615 = .ok (.iconst 1, 1) := by decide +kernel
theorem dL_law_616 : decode cL_law 616 = .ok (.iadd, 1) := by decide +kernel
theorem dL_law_617 : decode cL_law 617 = .ok (.iaload, 1) := by decide +kernel
theorem dL_law_618 : decode cL_law 618 = .ok (.aload_n 0, 1) := by decide +kernel
theorem dL_law_619 : decode cL_law 619 = .ok (.iload 4, 2) := by decide +kernel
theorem dL_law_621 : decode cL_law 621 = .ok (.iconst 2, 1) := by decide +kernel
theorem dL_law_622 : decode cL_law 622 = .ok (.iadd, 1) := by decide +kernel
theorem dL_law_623 : decode cL_law 623 = .ok (.iaload, 1) := by decide +kernel
theorem dL_law_624 : decode cL_law 624 = .ok (.invokevirtual 123, 3) := by decide +kernel
theorem dL_law_627 : decode cL_law 627 = .ok (.istore 6, 2) := by decide +kernel
theorem dL_law_629 : decode cL_law 629 = .ok (.aload_n 2, 1) := by decide +kernel
theorem dL_law_630 : decode cL_law 630 = .ok (.invokevirtual 86, 3) := by decide +kernel
theorem dL_law_633 : decode cL_law 633 = .ok (.iload 5, 2) := by decide +kernel
theorem dL_law_635 : decode cL_law 635 = .ok (.if_icmp .eq 5, 3) := by decide +kernel
theorem dL_law_638 : decode cL_law 638 = .ok (.iconst 0, 1) := by decide +kernel
theorem dL_law_639 : decode cL_law 639 = .ok (.ireturn, 1) := by decide +kernel
theorem dL_law_640 : decode cL_law 640 = .ok (.iload 5, 2) := by decide +kernel
theorem dL_law_642 : decode cL_law 642 = .ok (.ifCond .ne 15, 3) := by decide +kernel
theorem dL_law_645 : decode cL_law 645 = .ok (.aload_n 3, 1) := by decide +kernel
theorem dL_law_646 : decode cL_law 646 = .ok (.iconst 0, 1) := by decide +kernel
theorem dL_law_647 : decode cL_law 647 = .ok (.laload, 1) := by decide +kernel
theorem dL_law_648 : decode cL_law 648 = .ok (.iload 6, 2) := by decide +kernel
theorem dL_law_650 : decode cL_law 650 = .ok (.i2l, 1) := by decide +kernel
theorem dL_law_651 : decode cL_law 651 = .ok (.lcmp, 1) := by decide +kernel
theorem dL_law_652 : decode cL_law 652 = .ok (.ifCond .eq 5, 3) := by decide +kernel
theorem dL_law_655 : decode cL_law 655 = .ok (.iconst 0, 1) := by decide +kernel
theorem dL_law_656 : decode cL_law 656 = .ok (.ireturn, 1) := by decide +kernel
theorem dL_law_657 : decode cL_law 657 = .ok (.goto 775, 3) := by decide +kernel
theorem dL_law_660 : decode cL_law 660 = .ok (.aload_n 1, 1) := by decide +kernel
theorem dL_law_661 : decode cL_law 661 = .ok (.aload_n 0, 1) := by decide +kernel
theorem dL_law_662 : decode cL_law 662 = .ok (.iload 4, 2) := by decide +kernel
theorem dL_law_664 : decode cL_law 664 = .ok (.iconst 1, 1) := by decide +kernel
theorem dL_law_665 : decode cL_law 665 = .ok (.iadd, 1) := by decide +kernel
theorem dL_law_666 : decode cL_law 666 = .ok (.iaload, 1) := by decide +kernel
theorem dL_law_667 : decode cL_law 667 = .ok (.aload_n 3, 1) := by decide +kernel
theorem dL_law_668 : decode cL_law 668 = .ok (.invokestatic 124, 3) := by decide +kernel
theorem dL_law_671 : decode cL_law 671 = .ok (.istore 5, 2) := by decide +kernel
theorem dL_law_673 : decode cL_law 673 = .ok (.aload_n 2, 1) := by decide +kernel
theorem dL_law_674 : decode cL_law 674 = .ok (.aload_n 0, 1) := by decide +kernel
theorem dL_law_675 : decode cL_law 675 = .ok (.iload 4, 2) := by decide +kernel
theorem dL_law_677 : decode cL_law 677 = .ok (.iconst 1, 1) := by decide +kernel
theorem dL_law_678 : decode cL_law 678 = .ok (.iadd, 1) := by decide +kernel
theorem dL_law_679 : decode cL_law 679 = .ok (.iaload, 1) := by decide +kernel
theorem dL_law_680 : decode cL_law 680 = .ok (.invokevirtual 127, 3) := by decide +kernel
theorem dL_law_683 : decode cL_law 683 = .ok (.istore 6, 2) := by decide +kernel
theorem dL_law_685 : decode cL_law 685 = .ok (.aload_n 2, 1) := by decide +kernel
theorem dL_law_686 : decode cL_law 686 = .ok (.invokevirtual 86, 3) := by decide +kernel
theorem dL_law_689 : decode cL_law 689 = .ok (.iload 5, 2) := by decide +kernel
theorem dL_law_691 : decode cL_law 691 = .ok (.if_icmp .eq 5, 3) := by decide +kernel
theorem dL_law_694 : decode cL_law 694 = .ok (.iconst 0, 1) := by decide +kernel
theorem dL_law_695 : decode cL_law 695 = .ok (.ireturn, 1) := by decide +kernel
theorem dL_law_696 : decode cL_law 696 = .ok (.iload 5, 2) := by decide +kernel
theorem dL_law_698 : decode cL_law 698 = .ok (.ifCond .ne 15, 3) := by decide +kernel
theorem dL_law_701 : decode cL_law 701 = .ok (.aload_n 3, 1) := by decide +kernel
theorem dL_law_702 : decode cL_law 702 = .ok (.iconst 0, 1) := by decide +kernel
theorem dL_law_703 : decode cL_law 703 = .ok (.laload, 1) := by decide +kernel
theorem dL_law_704 : decode cL_law 704 = .ok (.iload 6, 2) := by decide +kernel
theorem dL_law_706 : decode cL_law 706 = .ok (.i2l, 1) := by decide +kernel
theorem dL_law_707 : decode cL_law 707 = .ok (.lcmp, 1) := by decide +kernel
theorem dL_law_708 : decode cL_law 708 = .ok (.ifCond .eq 5, 3) := by decide +kernel
theorem dL_law_711 : decode cL_law 711 = .ok (.iconst 0, 1) := by decide +kernel
theorem dL_law_712 : decode cL_law 712 = .ok (.ireturn, 1) := by decide +kernel
theorem dL_law_713 : decode cL_law 713 = .ok (.goto 719, 3) := by decide +kernel
theorem dL_law_716 : decode cL_law 716 = .ok (.aload_n 1, 1) := by decide +kernel
theorem dL_law_717 : decode cL_law 717 = .ok (.aload_n 0, 1) := by decide +kernel
theorem dL_law_718 : decode cL_law 718 = .ok (.iload 4, 2) := by decide +kernel
theorem dL_law_720 : decode cL_law 720 = .ok (.iconst 1, 1) := by decide +kernel
theorem dL_law_721 : decode cL_law 721 = .ok (.iadd, 1) := by decide +kernel
theorem dL_law_722 : decode cL_law 722 = .ok (.iaload, 1) := by decide +kernel
theorem dL_law_723 : decode cL_law 723 = .ok (.aload_n 0, 1) := by decide +kernel
theorem dL_law_724 : decode cL_law 724 = .ok (.iload 4, 2) := by decide +kernel
theorem dL_law_726 : decode cL_law 726 = .ok (.iconst 2, 1) := by decide +kernel
theorem dL_law_727 : decode cL_law 727 = .ok (.iadd, 1) := by decide +kernel
theorem dL_law_728 : decode cL_law 728 = .ok (.iaload, 1) := by decide +kernel
theorem dL_law_729 : decode cL_law 729 = .ok (.aload_n 3, 1) := by decide +kernel
theorem dL_law_730 : decode cL_law 730 = .ok (.invokestatic 128, 3) := by decide +kernel
theorem dL_law_733 : decode cL_law 733 = .ok (.istore 5, 2) := by decide +kernel
theorem dL_law_735 : decode cL_law 735 = .ok (.aload_n 2, 1) := by decide +kernel
theorem dL_law_736 : decode cL_law 736 = .ok (.aload_n 0, 1) := by decide +kernel
theorem dL_law_737 : decode cL_law 737 = .ok (.iload 4, 2) := by decide +kernel
theorem dL_law_739 : decode cL_law 739 = .ok (.iconst 1, 1) := by decide +kernel
theorem dL_law_740 : decode cL_law 740 = .ok (.iadd, 1) := by decide +kernel
theorem dL_law_741 : decode cL_law 741 = .ok (.iaload, 1) := by decide +kernel
theorem dL_law_742 : decode cL_law 742 = .ok (.aload_n 0, 1) := by decide +kernel
theorem dL_law_743 : decode cL_law 743 = .ok (.iload 4, 2) := by decide +kernel
theorem dL_law_745 : decode cL_law 745 = .ok (.iconst 2, 1) := by decide +kernel
theorem dL_law_746 : decode cL_law 746 = .ok (.iadd, 1) := by decide +kernel
theorem dL_law_747 : decode cL_law 747 = .ok (.iaload, 1) := by decide +kernel
theorem dL_law_748 : decode cL_law 748 = .ok (.invokevirtual 130, 3) := by decide +kernel
theorem dL_law_751 : decode cL_law 751 = .ok (.istore 6, 2) := by decide +kernel
theorem dL_law_753 : decode cL_law 753 = .ok (.aload_n 2, 1) := by decide +kernel
theorem dL_law_754 : decode cL_law 754 = .ok (.invokevirtual 86, 3) := by decide +kernel
theorem dL_law_757 : decode cL_law 757 = .ok (.iload 5, 2) := by decide +kernel
theorem dL_law_759 : decode cL_law 759 = .ok (.if_icmp .eq 5, 3) := by decide +kernel
theorem dL_law_762 : decode cL_law 762 = .ok (.iconst 0, 1) := by decide +kernel
theorem dL_law_763 : decode cL_law 763 = .ok (.ireturn, 1) := by decide +kernel
theorem dL_law_764 : decode cL_law 764 = .ok (.iload 5, 2) := by decide +kernel
theorem dL_law_766 : decode cL_law 766 = .ok (.ifCond .ne 15, 3) := by decide +kernel
theorem dL_law_769 : decode cL_law 769 = .ok (.aload_n 3, 1) := by decide +kernel
theorem dL_law_770 : decode cL_law 770 = .ok (.iconst 0, 1) := by decide +kernel
theorem dL_law_771 : decode cL_law 771 = .ok (.laload, 1) := by decide +kernel
theorem dL_law_772 : decode cL_law 772 = .ok (.iload 6, 2) := by decide +kernel
theorem dL_law_774 : decode cL_law 774 = .ok (.i2l, 1) := by decide +kernel
theorem dL_law_775 : decode cL_law 775 = .ok (.lcmp, 1) := by decide +kernel
theorem dL_law_776 : decode cL_law 776 = .ok (.ifCond .eq 5, 3) := by decide +kernel
theorem dL_law_779 : decode cL_law 779 = .ok (.iconst 0, 1) := by decide +kernel
theorem dL_law_780 : decode cL_law 780 = .ok (.ireturn, 1) := by decide +kernel
theorem dL_law_781 : decode cL_law 781 = .ok (.goto 651, 3) := by decide +kernel
theorem dL_law_784 : decode cL_law 784 = .ok (.aload_n 1, 1) := by decide +kernel
theorem dL_law_785 : decode cL_law 785 = .ok (.aload_n 0, 1) := by decide +kernel
theorem dL_law_786 : decode cL_law 786 = .ok (.iload 4, 2) := by decide +kernel
theorem dL_law_788 : decode cL_law 788 = .ok (.iconst 1, 1) := by decide +kernel
theorem dL_law_789 : decode cL_law 789 = .ok (.iadd, 1) := by decide +kernel
theorem dL_law_790 : decode cL_law 790 = .ok (.iaload, 1) := by decide +kernel
theorem dL_law_791 : decode cL_law 791 = .ok (.aload_n 0, 1) := by decide +kernel
theorem dL_law_792 : decode cL_law 792 = .ok (.iload 4, 2) := by decide +kernel
theorem dL_law_794 : decode cL_law 794 = .ok (.iconst 2, 1) := by decide +kernel
theorem dL_law_795 : decode cL_law 795 = .ok (.iadd, 1) := by decide +kernel
theorem dL_law_796 : decode cL_law 796 = .ok (.iaload, 1) := by decide +kernel
theorem dL_law_797 : decode cL_law 797 = .ok (.aload_n 0, 1) := by decide +kernel
theorem dL_law_798 : decode cL_law 798 = .ok (.iload 4, 2) := by decide +kernel
theorem dL_law_800 : decode cL_law 800 = .ok (.iconst 3, 1) := by decide +kernel
theorem dL_law_801 : decode cL_law 801 = .ok (.iadd, 1) := by decide +kernel
theorem dL_law_802 : decode cL_law 802 = .ok (.iaload, 1) := by decide +kernel
theorem dL_law_803 : decode cL_law 803 = .ok (.aload_n 3, 1) := by decide +kernel
theorem dL_law_804 : decode cL_law 804 = .ok (.invokestatic 131, 3) := by decide +kernel
theorem dL_law_807 : decode cL_law 807 = .ok (.istore 5, 2) := by decide +kernel
theorem dL_law_809 : decode cL_law 809 = .ok (.aload_n 2, 1) := by decide +kernel
theorem dL_law_810 : decode cL_law 810 = .ok (.aload_n 0, 1) := by decide +kernel
theorem dL_law_811 : decode cL_law 811 = .ok (.iload 4, 2) := by decide +kernel
theorem dL_law_813 : decode cL_law 813 = .ok (.iconst 1, 1) := by decide +kernel
theorem dL_law_814 : decode cL_law 814 = .ok (.iadd, 1) := by decide +kernel
theorem dL_law_815 : decode cL_law 815 = .ok (.iaload, 1) := by decide +kernel
theorem dL_law_816 : decode cL_law 816 = .ok (.aload_n 0, 1) := by decide +kernel
theorem dL_law_817 : decode cL_law 817 = .ok (.iload 4, 2) := by decide +kernel
theorem dL_law_819 : decode cL_law 819 = .ok (.iconst 2, 1) := by decide +kernel
theorem dL_law_820 : decode cL_law 820 = .ok (.iadd, 1) := by decide +kernel
theorem dL_law_821 : decode cL_law 821 = .ok (.iaload, 1) := by decide +kernel
theorem dL_law_822 : decode cL_law 822 = .ok (.aload_n 0, 1) := by decide +kernel
theorem dL_law_823 : decode cL_law 823 = .ok (.iload 4, 2) := by decide +kernel
theorem dL_law_825 : decode cL_law 825 = .ok (.iconst 3, 1) := by decide +kernel
theorem dL_law_826 : decode cL_law 826 = .ok (.iadd, 1) := by decide +kernel
theorem dL_law_827 : decode cL_law 827 = .ok (.iaload, 1) := by decide +kernel
theorem dL_law_828 : decode cL_law 828 = .ok (.invokevirtual 134, 3) := by decide +kernel
theorem dL_law_831 : decode cL_law 831 = .ok (.istore 6, 2) := by decide +kernel
theorem dL_law_833 : decode cL_law 833 = .ok (.aload_n 2, 1) := by decide +kernel
theorem dL_law_834 : decode cL_law 834 = .ok (.invokevirtual 86, 3) := by decide +kernel
theorem dL_law_837 : decode cL_law 837 = .ok (.iload 5, 2) := by decide +kernel
theorem dL_law_839 : decode cL_law 839 = .ok (.if_icmp .eq 5, 3) := by decide +kernel
theorem dL_law_842 : decode cL_law 842 = .ok (.iconst 0, 1) := by decide +kernel
theorem dL_law_843 : decode cL_law 843 = .ok (.ireturn, 1) := by decide +kernel
theorem dL_law_844 : decode cL_law 844 = .ok (.iload 5, 2) := by decide +kernel
theorem dL_law_846 : decode cL_law 846 = .ok (.ifCond .ne 15, 3) := by decide +kernel
theorem dL_law_849 : decode cL_law 849 = .ok (.aload_n 3, 1) := by decide +kernel
theorem dL_law_850 : decode cL_law 850 = .ok (.iconst 0, 1) := by decide +kernel
theorem dL_law_851 : decode cL_law 851 = .ok (.laload, 1) := by decide +kernel
theorem dL_law_852 : decode cL_law 852 = .ok (.iload 6, 2) := by decide +kernel
theorem dL_law_854 : decode cL_law 854 = .ok (.i2l, 1) := by decide +kernel
theorem dL_law_855 : decode cL_law 855 = .ok (.lcmp, 1) := by decide +kernel
theorem dL_law_856 : decode cL_law 856 = .ok (.ifCond .eq 5, 3) := by decide +kernel
theorem dL_law_859 : decode cL_law 859 = .ok (.iconst 0, 1) := by decide +kernel
theorem dL_law_860 : decode cL_law 860 = .ok (.ireturn, 1) := by decide +kernel
theorem dL_law_861 : decode cL_law 861 = .ok (.goto 571, 3) := by decide +kernel
theorem dL_law_864 : decode cL_law 864 = .ok (.aload_n 1, 1) := by decide +kernel
theorem dL_law_865 : decode cL_law 865 = .ok (.aload_n 0, 1) := by decide +kernel
theorem dL_law_866 : decode cL_law 866 = .ok (.iload 4, 2) := by decide +kernel
theorem dL_law_868 : decode cL_law 868 = .ok (.iconst 1, 1) := by decide +kernel
theorem dL_law_869 : decode cL_law 869 = .ok (.iadd, 1) := by decide +kernel
theorem dL_law_870 : decode cL_law 870 = .ok (.iaload, 1) := by decide +kernel
theorem dL_law_871 : decode cL_law 871 = .ok (.aload_n 3, 1) := by decide +kernel
theorem dL_law_872 : decode cL_law 872 = .ok (.invokestatic 135, 3) := by decide +kernel
theorem dL_law_875 : decode cL_law 875 = .ok (.istore 5, 2) := by decide +kernel
theorem dL_law_877 : decode cL_law 877 = .ok (.aload_n 2, 1) := by decide +kernel
theorem dL_law_878 : decode cL_law 878 = .ok (.aload_n 0, 1) := by decide +kernel
theorem dL_law_879 : decode cL_law 879 = .ok (.iload 4, 2) := by decide +kernel
theorem dL_law_881 : decode cL_law 881 = .ok (.iconst 1, 1) := by decide +kernel
theorem dL_law_882 : decode cL_law 882 = .ok (.iadd, 1) := by decide +kernel
theorem dL_law_883 : decode cL_law 883 = .ok (.iaload, 1) := by decide +kernel
theorem dL_law_884 : decode cL_law 884 = .ok (.invokevirtual 137, 3) := by decide +kernel
theorem dL_law_887 : decode cL_law 887 = .ok (.istore 6, 2) := by decide +kernel
theorem dL_law_889 : decode cL_law 889 = .ok (.aload_n 2, 1) := by decide +kernel
theorem dL_law_890 : decode cL_law 890 = .ok (.invokevirtual 86, 3) := by decide +kernel
theorem dL_law_893 : decode cL_law 893 = .ok (.iload 5, 2) := by decide +kernel
theorem dL_law_895 : decode cL_law 895 = .ok (.if_icmp .eq 5, 3) := by decide +kernel
theorem dL_law_898 : decode cL_law 898 = .ok (.iconst 0, 1) := by decide +kernel
theorem dL_law_899 : decode cL_law 899 = .ok (.ireturn, 1) := by decide +kernel
theorem dL_law_900 : decode cL_law 900 = .ok (.iload 5, 2) := by decide +kernel
theorem dL_law_902 : decode cL_law 902 = .ok (.ifCond .ne 15, 3) := by decide +kernel
theorem dL_law_905 : decode cL_law 905 = .ok (.aload_n 3, 1) := by decide +kernel
theorem dL_law_906 : decode cL_law 906 = .ok (.iconst 0, 1) := by decide +kernel
theorem dL_law_907 : decode cL_law 907 = .ok (.laload, 1) := by decide +kernel
theorem dL_law_908 : decode cL_law 908 = .ok (.iload 6, 2) := by decide +kernel
theorem dL_law_910 : decode cL_law 910 = .ok (.i2l, 1) := by decide +kernel
theorem dL_law_911 : decode cL_law 911 = .ok (.lcmp, 1) := by decide +kernel
theorem dL_law_912 : decode cL_law 912 = .ok (.ifCond .eq 5, 3) := by decide +kernel
theorem dL_law_915 : decode cL_law 915 = .ok (.iconst 0, 1) := by decide +kernel
theorem dL_law_916 : decode cL_law 916 = .ok (.ireturn, 1) := by decide +kernel
theorem dL_law_917 : decode cL_law 917 = .ok (.goto 515, 3) := by decide +kernel
theorem dL_law_920 : decode cL_law 920 = .ok (.aload_n 1, 1) := by decide +kernel
theorem dL_law_921 : decode cL_law 921 = .ok (.aload_n 0, 1) := by decide +kernel
theorem dL_law_922 : decode cL_law 922 = .ok (.iload 4, 2) := by decide +kernel
theorem dL_law_924 : decode cL_law 924 = .ok (.iconst 1, 1) := by decide +kernel
theorem dL_law_925 : decode cL_law 925 = .ok (.iadd, 1) := by decide +kernel
theorem dL_law_926 : decode cL_law 926 = .ok (.iaload, 1) := by decide +kernel
theorem dL_law_927 : decode cL_law 927 = .ok (.aload_n 3, 1) := by decide +kernel
theorem dL_law_928 : decode cL_law 928 = .ok (.invokestatic 138, 3) := by decide +kernel
theorem dL_law_931 : decode cL_law 931 = .ok (.istore 5, 2) := by decide +kernel
theorem dL_law_933 : decode cL_law 933 = .ok (.aload_n 2, 1) := by decide +kernel
theorem dL_law_934 : decode cL_law 934 = .ok (.aload_n 0, 1) := by decide +kernel
theorem dL_law_935 : decode cL_law 935 = .ok (.iload 4, 2) := by decide +kernel
theorem dL_law_937 : decode cL_law 937 = .ok (.iconst 1, 1) := by decide +kernel
theorem dL_law_938 : decode cL_law 938 = .ok (.iadd, 1) := by decide +kernel
theorem dL_law_939 : decode cL_law 939 = .ok (.iaload, 1) := by decide +kernel
theorem dL_law_940 : decode cL_law 940 = .ok (.invokevirtual 140, 3) := by decide +kernel
theorem dL_law_943 : decode cL_law 943 = .ok (.istore 6, 2) := by decide +kernel
theorem dL_law_945 : decode cL_law 945 = .ok (.aload_n 2, 1) := by decide +kernel
theorem dL_law_946 : decode cL_law 946 = .ok (.invokevirtual 86, 3) := by decide +kernel
theorem dL_law_949 : decode cL_law 949 = .ok (.iload 5, 2) := by decide +kernel
theorem dL_law_951 : decode cL_law 951 = .ok (.if_icmp .eq 5, 3) := by decide +kernel
theorem dL_law_954 : decode cL_law 954 = .ok (.iconst 0, 1) := by decide +kernel
theorem dL_law_955 : decode cL_law 955 = .ok (.ireturn, 1) := by decide +kernel
theorem dL_law_956 : decode cL_law 956 = .ok (.iload 5, 2) := by decide +kernel
theorem dL_law_958 : decode cL_law 958 = .ok (.ifCond .ne 15, 3) := by decide +kernel
theorem dL_law_961 : decode cL_law 961 = .ok (.aload_n 3, 1) := by decide +kernel
theorem dL_law_962 : decode cL_law 962 = .ok (.iconst 0, 1) := by decide +kernel
theorem dL_law_963 : decode cL_law 963 = .ok (.laload, 1) := by decide +kernel
theorem dL_law_964 : decode cL_law 964 = .ok (.iload 6, 2) := by decide +kernel
theorem dL_law_966 : decode cL_law 966 = .ok (.i2l, 1) := by decide +kernel
theorem dL_law_967 : decode cL_law 967 = .ok (.lcmp, 1) := by decide +kernel
theorem dL_law_968 : decode cL_law 968 = .ok (.ifCond .eq 5, 3) := by decide +kernel
theorem dL_law_971 : decode cL_law 971 = .ok (.iconst 0, 1) := by decide +kernel
theorem dL_law_972 : decode cL_law 972 = .ok (.ireturn, 1) := by decide +kernel
theorem dL_law_973 : decode cL_law 973 = .ok (.goto 459, 3) := by decide +kernel
theorem dL_law_976 : decode cL_law 976 = .ok (.aload_n 1, 1) := by decide +kernel
theorem dL_law_977 : decode cL_law 977 = .ok (.aload_n 0, 1) := by decide +kernel
theorem dL_law_978 : decode cL_law 978 = .ok (.iload 4, 2) := by decide +kernel
theorem dL_law_980 : decode cL_law 980 = .ok (.iconst 1, 1) := by decide +kernel
theorem dL_law_981 : decode cL_law 981 = .ok (.iadd, 1) := by decide +kernel
theorem dL_law_982 : decode cL_law 982 = .ok (.iaload, 1) := by decide +kernel
theorem dL_law_983 : decode cL_law 983 = .ok (.aload_n 0, 1) := by decide +kernel
theorem dL_law_984 : decode cL_law 984 = .ok (.iload 4, 2) := by decide +kernel
theorem dL_law_986 : decode cL_law 986 = .ok (.iconst 2, 1) := by decide +kernel
theorem dL_law_987 : decode cL_law 987 = .ok (.iadd, 1) := by decide +kernel
theorem dL_law_988 : decode cL_law 988 = .ok (.iaload, 1) := by decide +kernel
theorem dL_law_989 : decode cL_law 989 = .ok (.aload_n 3, 1) := by decide +kernel
theorem dL_law_990 : decode cL_law 990 = .ok (.invokestatic 141, 3) := by decide +kernel
theorem dL_law_993 : decode cL_law 993 = .ok (.istore 5, 2) := by decide +kernel
theorem dL_law_995 : decode cL_law 995 = .ok (.aload_n 2, 1) := by decide +kernel
theorem dL_law_996 : decode cL_law 996 = .ok (.aload_n 0, 1) := by decide +kernel
theorem dL_law_997 : decode cL_law 997 = .ok (.iload 4, 2) := by decide +kernel
theorem dL_law_999 : decode cL_law 999 = .ok (.iconst 1, 1) := by decide +kernel
theorem dL_law_1000 : decode cL_law 1000 = .ok (.iadd, 1) := by decide +kernel
theorem dL_law_1001 : decode cL_law 1001 = .ok (.iaload, 1) := by decide +kernel
theorem dL_law_1002 : decode cL_law 1002 = .ok (.aload_n 0, 1) := by decide +kernel
theorem dL_law_1003 : decode cL_law 1003 = .ok (.iload 4, 2) := by decide +kernel
theorem dL_law_1005 : decode cL_law 1005 = .ok (.iconst 2, 1) := by decide +kernel
theorem dL_law_1006 : decode cL_law 1006 = .ok (.iadd, 1) := by decide +kernel
theorem dL_law_1007 : decode cL_law 1007 = .ok (.iaload, 1) := by decide +kernel
theorem dL_law_1008 : decode cL_law 1008 = .ok (.invokevirtual 143, 3) := by decide +kernel
theorem dL_law_1011 : decode cL_law 1011 = .ok (.istore 6, 2) := by decide +kernel
theorem dL_law_1013 : decode cL_law 1013 = .ok (.aload_n 2, 1) := by decide +kernel
theorem dL_law_1014 : decode cL_law 1014 = .ok (.invokevirtual 86, 3) := by decide +kernel
theorem dL_law_1017 : decode cL_law 1017 = .ok (.iload 5, 2) := by decide +kernel
theorem dL_law_1019 : decode cL_law 1019 = .ok (.if_icmp .eq 5, 3) := by decide +kernel
theorem dL_law_1022 : decode cL_law 1022 = .ok (.iconst 0, 1) := by decide +kernel
theorem dL_law_1023 : decode cL_law 1023 = .ok (.ireturn, 1) := by decide +kernel
theorem dL_law_1024 : decode cL_law 1024 = .ok (.iload 5, 2) := by decide +kernel
theorem dL_law_1026 : decode cL_law 1026 = .ok (.ifCond .ne 15, 3) := by decide +kernel
theorem dL_law_1029 : decode cL_law 1029 = .ok (.aload_n 3, 1) := by decide +kernel
theorem dL_law_1030 : decode cL_law 1030 = .ok (.iconst 0, 1) := by decide +kernel
theorem dL_law_1031 : decode cL_law 1031 = .ok (.laload, 1) := by decide +kernel
theorem dL_law_1032 : decode cL_law 1032 = .ok (.iload 6, 2) := by decide +kernel
theorem dL_law_1034 : decode cL_law 1034 = .ok (.i2l, 1) := by decide +kernel
theorem dL_law_1035 : decode cL_law 1035 = .ok (.lcmp, 1) := by decide +kernel
theorem dL_law_1036 : decode cL_law 1036 = .ok (.ifCond .eq 5, 3) := by decide +kernel
theorem dL_law_1039 : decode cL_law 1039 = .ok (.iconst 0, 1) := by decide +kernel
theorem dL_law_1040 : decode cL_law 1040 = .ok (.ireturn, 1) := by decide +kernel
theorem dL_law_1041 : decode cL_law 1041 = .ok (.goto 391, 3) := by decide +kernel
theorem dL_law_1044 : decode cL_law 1044 = .ok (.aload_n 1, 1) := by decide +kernel
theorem dL_law_1045 : decode cL_law 1045 = .ok (.aload_n 0, 1) := by decide +kernel
theorem dL_law_1046 : decode cL_law 1046 = .ok (.iload 4, 2) := by decide +kernel
theorem dL_law_1048 : decode cL_law 1048 = .ok (.iconst 1, 1) := by decide +kernel
theorem dL_law_1049 : decode cL_law 1049 = .ok (.iadd, 1) := by decide +kernel
theorem dL_law_1050 : decode cL_law 1050 = .ok (.iaload, 1) := by decide +kernel
theorem dL_law_1051 : decode cL_law 1051 = .ok (.aload_n 3, 1) := by decide +kernel
theorem dL_law_1052 : decode cL_law 1052 = .ok (.invokestatic 144, 3) := by decide +kernel
theorem dL_law_1055 : decode cL_law 1055 = .ok (.istore 5, 2) := by decide +kernel
theorem dL_law_1057 : decode cL_law 1057 = .ok (.aload_n 2, 1) := by decide +kernel
theorem dL_law_1058 : decode cL_law 1058 = .ok (.aload_n 0, 1) := by decide +kernel
theorem dL_law_1059 : decode cL_law 1059 = .ok (.iload 4, 2) := by decide +kernel
theorem dL_law_1061 : decode cL_law 1061 = .ok (.iconst 1, 1) := by decide +kernel
theorem dL_law_1062 : decode cL_law 1062 = .ok (.iadd, 1) := by decide +kernel
theorem dL_law_1063 : decode cL_law 1063 = .ok (.iaload, 1) := by decide +kernel
theorem dL_law_1064 : decode cL_law 1064 = .ok (.invokevirtual 146, 3) := by decide +kernel
theorem dL_law_1067 : decode cL_law 1067 = .ok (.istore 6, 2) := by decide +kernel
theorem dL_law_1069 : decode cL_law 1069 = .ok (.aload_n 2, 1) := by decide +kernel
theorem dL_law_1070 : decode cL_law 1070 = .ok (.invokevirtual 86, 3) := by decide +kernel
theorem dL_law_1073 : decode cL_law 1073 = .ok (.iload 5, 2) := by decide +kernel
theorem dL_law_1075 : decode cL_law 1075 = .ok (.if_icmp .eq 5, 3) := by decide +kernel
theorem dL_law_1078 : decode cL_law 1078 = .ok (.iconst 0, 1) := by decide +kernel
theorem dL_law_1079 : decode cL_law 1079 = .ok (.ireturn, 1) := by decide +kernel
theorem dL_law_1080 : decode cL_law 1080 = .ok (.iload 5, 2) := by decide +kernel
theorem dL_law_1082 : decode cL_law 1082 = .ok (.ifCond .ne 15, 3) := by decide +kernel
theorem dL_law_1085 : decode cL_law 1085 = .ok (.aload_n 3, 1) := by decide +kernel
theorem dL_law_1086 : decode cL_law 1086 = .ok (.iconst 0, 1) := by decide +kernel
theorem dL_law_1087 : decode cL_law 1087 = .ok (.laload, 1) := by decide +kernel
theorem dL_law_1088 : decode cL_law 1088 = .ok (.iload 6, 2) := by decide +kernel
theorem dL_law_1090 : decode cL_law 1090 = .ok (.i2l, 1) := by decide +kernel
theorem dL_law_1091 : decode cL_law 1091 = .ok (.lcmp, 1) := by decide +kernel
theorem dL_law_1092 : decode cL_law 1092 = .ok (.ifCond .eq 5, 3) := by decide +kernel
theorem dL_law_1095 : decode cL_law 1095 = .ok (.iconst 0, 1) := by decide +kernel
theorem dL_law_1096 : decode cL_law 1096 = .ok (.ireturn, 1) := by decide +kernel
theorem dL_law_1097 : decode cL_law 1097 = .ok (.goto 335, 3) := by decide +kernel
theorem dL_law_1100 : decode cL_law 1100 = .ok (.aload_n 1, 1) := by decide +kernel
theorem dL_law_1101 : decode cL_law 1101 = .ok (.invokevirtual 147, 3) := by decide +kernel
theorem dL_law_1104 : decode cL_law 1104 = .ok (.aload_n 2, 1) := by decide +kernel
theorem dL_law_1105 : decode cL_law 1105 = .ok (.invokevirtual 150, 3) := by decide +kernel
theorem dL_law_1108 : decode cL_law 1108 = .ok (.if_icmp .eq 324, 3) := by decide +kernel
theorem dL_law_1111 : decode cL_law 1111 = .ok (.iconst 0, 1) := by decide +kernel
theorem dL_law_1112 : decode cL_law 1112 = .ok (.ireturn, 1) := by decide +kernel
theorem dL_law_1113 : decode cL_law 1113 = .ok (.aload_n 1, 1) := by decide +kernel
theorem dL_law_1114 : decode cL_law 1114 = .ok (.aload_n 0, 1) := by decide +kernel
theorem dL_law_1115 : decode cL_law 1115 = .ok (.iload 4, 2) := by decide +kernel
theorem dL_law_1117 : decode cL_law 1117 = .ok (.iconst 1, 1) := by decide +kernel
theorem dL_law_1118 : decode cL_law 1118 = .ok (.iadd, 1) := by decide +kernel
theorem dL_law_1119 : decode cL_law 1119 = .ok (.iaload, 1) := by decide +kernel
theorem dL_law_1120 : decode cL_law 1120 = .ok (.aload_n 3, 1) := by decide +kernel
theorem dL_law_1121 : decode cL_law 1121 = .ok (.invokestatic 151, 3) := by decide +kernel
theorem dL_law_1124 : decode cL_law 1124 = .ok (.istore 5, 2) := by decide +kernel
theorem dL_law_1126 : decode cL_law 1126 = .ok (.aload_n 2, 1) := by decide +kernel
theorem dL_law_1127 : decode cL_law 1127 = .ok (.aload_n 0, 1) := by decide +kernel
theorem dL_law_1128 : decode cL_law 1128 = .ok (.iload 4, 2) := by decide +kernel
theorem dL_law_1130 : decode cL_law 1130 = .ok (.iconst 1, 1) := by decide +kernel
theorem dL_law_1131 : decode cL_law 1131 = .ok (.iadd, 1) := by decide +kernel
theorem dL_law_1132 : decode cL_law 1132 = .ok (.iaload, 1) := by decide +kernel
theorem dL_law_1133 : decode cL_law 1133 = .ok (.invokevirtual 153, 3) := by decide +kernel
theorem dL_law_1136 : decode cL_law 1136 = .ok (.istore 6, 2) := by decide +kernel
theorem dL_law_1138 : decode cL_law 1138 = .ok (.aload_n 2, 1) := by decide +kernel
theorem dL_law_1139 : decode cL_law 1139 = .ok (.invokevirtual 86, 3) := by decide +kernel
theorem dL_law_1142 : decode cL_law 1142 = .ok (.iload 5, 2) := by decide +kernel
theorem dL_law_1144 : decode cL_law 1144 = .ok (.if_icmp .eq 5, 3) := by decide +kernel
theorem dL_law_1147 : decode cL_law 1147 = .ok (.iconst 0, 1) := by decide +kernel
theorem dL_law_1148 : decode cL_law 1148 = .ok (.ireturn, 1) := by decide +kernel
theorem dL_law_1149 : decode cL_law 1149 = .ok (.iload 5, 2) := by decide +kernel
theorem dL_law_1151 : decode cL_law 1151 = .ok (.ifCond .ne 15, 3) := by decide +kernel
theorem dL_law_1154 : decode cL_law 1154 = .ok (.aload_n 3, 1) := by decide +kernel
theorem dL_law_1155 : decode cL_law 1155 = .ok (.iconst 0, 1) := by decide +kernel
theorem dL_law_1156 : decode cL_law 1156 = .ok (.laload, 1) := by decide +kernel
theorem dL_law_1157 : decode cL_law 1157 = .ok (.iload 6, 2) := by decide +kernel
theorem dL_law_1159 : decode cL_law 1159 = .ok (.i2l, 1) := by decide +kernel
theorem dL_law_1160 : decode cL_law 1160 = .ok (.lcmp, 1) := by decide +kernel
theorem dL_law_1161 : decode cL_law 1161 = .ok (.ifCond .eq 5, 3) := by decide +kernel
theorem dL_law_1164 : decode cL_law 1164 = .ok (.iconst 0, 1) := by decide +kernel
theorem dL_law_1165 : decode cL_law 1165 = .ok (.ireturn, 1) := by decide +kernel
theorem dL_law_1166 : decode cL_law 1166 = .ok (.goto 266, 3) := by decide +kernel
theorem dL_law_1169 : decode cL_law 1169 = .ok (.aload_n 1, 1) := by decide +kernel
theorem dL_law_1170 : decode cL_law 1170 = .ok (.aload_n 0, 1) := by decide +kernel
theorem dL_law_1171 : decode cL_law 1171 = .ok (.iload 4, 2) := by decide +kernel
theorem dL_law_1173 : decode cL_law 1173 = .ok (.iconst 1, 1) := by decide +kernel
theorem dL_law_1174 : decode cL_law 1174 = .ok (.iadd, 1) := by decide +kernel
theorem dL_law_1175 : decode cL_law 1175 = .ok (.iaload, 1) := by decide +kernel
theorem dL_law_1176 : decode cL_law 1176 = .ok (.aload_n 3, 1) := by decide +kernel
theorem dL_law_1177 : decode cL_law 1177 = .ok (.invokestatic 154, 3) := by decide +kernel
theorem dL_law_1180 : decode cL_law 1180 = .ok (.istore 5, 2) := by decide +kernel
theorem dL_law_1182 : decode cL_law 1182 = .ok (.aload_n 2, 1) := by decide +kernel
theorem dL_law_1183 : decode cL_law 1183 = .ok (.aload_n 0, 1) := by decide +kernel
theorem dL_law_1184 : decode cL_law 1184 = .ok (.iload 4, 2) := by decide +kernel
theorem dL_law_1186 : decode cL_law 1186 = .ok (.iconst 1, 1) := by decide +kernel
theorem dL_law_1187 : decode cL_law 1187 = .ok (.iadd, 1) := by decide +kernel
theorem dL_law_1188 : decode cL_law 1188 = .ok (.iaload, 1) := by decide +kernel
theorem dL_law_1189 : decode cL_law 1189 = .ok (.invokevirtual 156, 3) := by decide +kernel
theorem dL_law_1192 : decode cL_law 1192 = .ok (.istore 6, 2) := by decide +kernel
theorem dL_law_1194 : decode cL_law 1194 = .ok (.aload_n 2, 1) := by decide +kernel
theorem dL_law_1195 : decode cL_law 1195 = .ok (.invokevirtual 86, 3) := by decide +kernel
theorem dL_law_1198 : decode cL_law 1198 = .ok (.iload 5, 2) := by decide +kernel
theorem dL_law_1200 : decode cL_law 1200 = .ok (.if_icmp .eq 5, 3) := by decide +kernel
theorem dL_law_1203 : decode cL_law 1203 = .ok (.iconst 0, 1) := by decide +kernel
theorem dL_law_1204 : decode cL_law 1204 = .ok (.ireturn, 1) := by decide +kernel
theorem dL_law_1205 : decode cL_law 1205 = .ok (.iload 5, 2) := by decide +kernel
theorem dL_law_1207 : decode cL_law 1207 = .ok (.ifCond .ne 15, 3) := by decide +kernel
theorem dL_law_1210 : decode cL_law 1210 = .ok (.aload_n 3, 1) := by decide +kernel
theorem dL_law_1211 : decode cL_law 1211 = .ok (.iconst 0, 1) := by decide +kernel
theorem dL_law_1212 : decode cL_law 1212 = .ok (.laload, 1) := by decide +kernel
theorem dL_law_1213 : decode cL_law 1213 = .ok (.iload 6, 2) := by decide +kernel
theorem dL_law_1215 : decode cL_law 1215 = .ok (.i2l, 1) := by decide +kernel
theorem dL_law_1216 : decode cL_law 1216 = .ok (.lcmp, 1) := by decide +kernel
theorem dL_law_1217 : decode cL_law 1217 = .ok (.ifCond .eq 5, 3) := by decide +kernel
theorem dL_law_1220 : decode cL_law 1220 = .ok (.iconst 0, 1) := by decide +kernel
theorem dL_law_1221 : decode cL_law 1221 = .ok (.ireturn, 1) := by decide +kernel
theorem dL_law_1222 : decode cL_law 1222 = .ok (.goto 210, 3) := by decide +kernel
theorem dL_law_1225 : decode cL_law 1225 = .ok (.aload_n 1, 1) := by decide +kernel
theorem dL_law_1226 : decode cL_law 1226 = .ok (.aload_n 0, 1) := by decide +kernel
theorem dL_law_1227 : decode cL_law 1227 = .ok (.iload 4, 2) := by decide +kernel
theorem dL_law_1229 : decode cL_law 1229 = .ok (.iconst 1, 1) := by decide +kernel
theorem dL_law_1230 : decode cL_law 1230 = .ok (.iadd, 1) := by decide +kernel
theorem dL_law_1231 : decode cL_law 1231 = .ok (.iaload, 1) := by decide +kernel
theorem dL_law_1232 : decode cL_law 1232 = .ok (.aload_n 0, 1) := by decide +kernel
theorem dL_law_1233 : decode cL_law 1233 = .ok (.iload 4, 2) := by decide +kernel
theorem dL_law_1235 : decode cL_law 1235 = .ok (.iconst 2, 1) := by decide +kernel
theorem dL_law_1236 : decode cL_law 1236 = .ok (.iadd, 1) := by decide +kernel
theorem dL_law_1237 : decode cL_law 1237 = .ok (.iaload, 1) := by decide +kernel
theorem dL_law_1238 : decode cL_law 1238 = .ok (.aload_n 3, 1) := by decide +kernel
theorem dL_law_1239 : decode cL_law 1239 = .ok (.invokestatic 157, 3) := by decide +kernel
theorem dL_law_1242 : decode cL_law 1242 = .ok (.istore 5, 2) := by decide +kernel
theorem dL_law_1244 : decode cL_law 1244 = .ok (.aload_n 2, 1) := by decide +kernel
theorem dL_law_1245 : decode cL_law 1245 = .ok (.aload_n 0, 1) := by decide +kernel
theorem dL_law_1246 : decode cL_law 1246 = .ok (.iload 4, 2) := by decide +kernel
theorem dL_law_1248 : decode cL_law 1248 = .ok (.iconst 1, 1) := by decide +kernel
theorem dL_law_1249 : decode cL_law 1249 = .ok (.iadd, 1) := by decide +kernel
theorem dL_law_1250 : decode cL_law 1250 = .ok (.iaload, 1) := by decide +kernel
theorem dL_law_1251 : decode cL_law 1251 = .ok (.aload_n 0, 1) := by decide +kernel
theorem dL_law_1252 : decode cL_law 1252 = .ok (.iload 4, 2) := by decide +kernel
theorem dL_law_1254 : decode cL_law 1254 = .ok (.iconst 2, 1) := by decide +kernel
theorem dL_law_1255 : decode cL_law 1255 = .ok (.iadd, 1) := by decide +kernel
theorem dL_law_1256 : decode cL_law 1256 = .ok (.iaload, 1) := by decide +kernel
theorem dL_law_1257 : decode cL_law 1257 = .ok (.invokevirtual 159, 3) := by decide +kernel
theorem dL_law_1260 : decode cL_law 1260 = .ok (.istore 6, 2) := by decide +kernel
theorem dL_law_1262 : decode cL_law 1262 = .ok (.aload_n 2, 1) := by decide +kernel
theorem dL_law_1263 : decode cL_law 1263 = .ok (.invokevirtual 86, 3) := by decide +kernel
theorem dL_law_1266 : decode cL_law 1266 = .ok (.iload 5, 2) := by decide +kernel
theorem dL_law_1268 : decode cL_law 1268 = .ok (.if_icmp .eq 5, 3) := by decide +kernel
theorem dL_law_1271 : decode cL_law 1271 = .ok (.iconst 0, 1) := by decide +kernel
theorem dL_law_1272 : decode cL_law 1272 = .ok (.ireturn, 1) := by decide +kernel
theorem dL_law_1273 : decode cL_law 1273 = .ok (.iload 5, 2) := by decide +kernel
theorem dL_law_1275 : decode cL_law 1275 = .ok (.ifCond .ne 15, 3) := by decide +kernel
theorem dL_law_1278 : decode cL_law 1278 = .ok (.aload_n 3, 1) := by decide +kernel
theorem dL_law_1279 : decode cL_law 1279 = .ok (.iconst 0, 1) := by decide +kernel
theorem dL_law_1280 : decode cL_law 1280 = .ok (.laload, 1) := by decide +kernel
theorem dL_law_1281 : decode cL_law 1281 = .ok (.iload 6, 2) := by decide +kernel
theorem dL_law_1283 : decode cL_law 1283 = .ok (.i2l, 1) := by decide +kernel
theorem dL_law_1284 : decode cL_law 1284 = .ok (.lcmp, 1) := by decide +kernel
theorem dL_law_1285 : decode cL_law 1285 = .ok (.ifCond .eq 5, 3) := by decide +kernel
theorem dL_law_1288 : decode cL_law 1288 = .ok (.iconst 0, 1) := by decide +kernel
theorem dL_law_1289 : decode cL_law 1289 = .ok (.ireturn, 1) := by decide +kernel
theorem dL_law_1290 : decode cL_law 1290 = .ok (.goto 142, 3) := by decide +kernel
theorem dL_law_1293 : decode cL_law 1293 = .ok (.aload_n 1, 1) := by decide +kernel
theorem dL_law_1294 : decode cL_law 1294 = .ok (.invokevirtual 160, 3) := by decide +kernel
theorem dL_law_1297 : decode cL_law 1297 = .ok (.aload_n 2, 1) := by decide +kernel
theorem dL_law_1298 : decode cL_law 1298 = .ok (.invokevirtual 163, 3) := by decide +kernel
theorem dL_law_1301 : decode cL_law 1301 = .ok (.if_icmp .eq 131, 3) := by decide +kernel
theorem dL_law_1304 : decode cL_law 1304 = .ok (.iconst 0, 1) := by decide +kernel
theorem dL_law_1305 : decode cL_law 1305 = .ok (.ireturn, 1) := by decide +kernel
theorem dL_law_1306 : decode cL_law 1306 = .ok (.aload_n 1, 1) := by decide +kernel
theorem dL_law_1307 : decode cL_law 1307 = .ok (.aload_n 0, 1) := by decide +kernel
theorem dL_law_1308 : decode cL_law 1308 = .ok (.iload 4, 2) := by decide +kernel
theorem dL_law_1310 : decode cL_law 1310 = .ok (.iconst 1, 1) := by decide +kernel
theorem dL_law_1311 : decode cL_law 1311 = .ok (.iadd, 1) := by decide +kernel
theorem dL_law_1312 : decode cL_law 1312 = .ok (.iaload, 1) := by decide +kernel
theorem dL_law_1313 : decode cL_law 1313 = .ok (.aload_n 0, 1) := by decide +kernel
theorem dL_law_1314 : decode cL_law 1314 = .ok (.iload 4, 2) := by decide +kernel
theorem dL_law_1316 : decode cL_law 1316 = .ok (.iconst 2, 1) := by decide +kernel
theorem dL_law_1317 : decode cL_law 1317 = .ok (.iadd, 1) := by decide +kernel
theorem dL_law_1318 : decode cL_law 1318 = .ok (.iaload, 1) := by decide +kernel
theorem dL_law_1319 : decode cL_law 1319 = .ok (.aload_n 3, 1) := by decide +kernel
theorem dL_law_1320 : decode cL_law 1320 = .ok (.invokestatic 164, 3) := by decide +kernel
theorem dL_law_1323 : decode cL_law 1323 = .ok (.istore 5, 2) := by decide +kernel
theorem dL_law_1325 : decode cL_law 1325 = .ok (.aload_n 2, 1) := by decide +kernel
theorem dL_law_1326 : decode cL_law 1326 = .ok (.aload_n 0, 1) := by decide +kernel
theorem dL_law_1327 : decode cL_law 1327 = .ok (.iload 4, 2) := by decide +kernel
theorem dL_law_1329 : decode cL_law 1329 = .ok (.iconst 1, 1) := by decide +kernel
theorem dL_law_1330 : decode cL_law 1330 = .ok (.iadd, 1) := by decide +kernel
theorem dL_law_1331 : decode cL_law 1331 = .ok (.iaload, 1) := by decide +kernel
theorem dL_law_1332 : decode cL_law 1332 = .ok (.aload_n 0, 1) := by decide +kernel
theorem dL_law_1333 : decode cL_law 1333 = .ok (.iload 4, 2) := by decide +kernel
theorem dL_law_1335 : decode cL_law 1335 = .ok (.iconst 2, 1) := by decide +kernel
theorem dL_law_1336 : decode cL_law 1336 = .ok (.iadd, 1) := by decide +kernel
theorem dL_law_1337 : decode cL_law 1337 = .ok (.iaload, 1) := by decide +kernel
theorem dL_law_1338 : decode cL_law 1338 = .ok (.invokevirtual 166, 3) := by decide +kernel
theorem dL_law_1341 : decode cL_law 1341 = .ok (.istore 6, 2) := by decide +kernel
theorem dL_law_1343 : decode cL_law 1343 = .ok (.aload_n 2, 1) := by decide +kernel
theorem dL_law_1344 : decode cL_law 1344 = .ok (.invokevirtual 86, 3) := by decide +kernel
theorem dL_law_1347 : decode cL_law 1347 = .ok (.iload 5, 2) := by decide +kernel
theorem dL_law_1349 : decode cL_law 1349 = .ok (.if_icmp .eq 5, 3) := by decide +kernel
theorem dL_law_1352 : decode cL_law 1352 = .ok (.iconst 0, 1) := by decide +kernel
theorem dL_law_1353 : decode cL_law 1353 = .ok (.ireturn, 1) := by decide +kernel
theorem dL_law_1354 : decode cL_law 1354 = .ok (.iload 5, 2) := by decide +kernel
theorem dL_law_1356 : decode cL_law 1356 = .ok (.ifCond .ne 15, 3) := by decide +kernel
theorem dL_law_1359 : decode cL_law 1359 = .ok (.aload_n 3, 1) := by decide +kernel
theorem dL_law_1360 : decode cL_law 1360 = .ok (.iconst 0, 1) := by decide +kernel
theorem dL_law_1361 : decode cL_law 1361 = .ok (.laload, 1) := by decide +kernel
theorem dL_law_1362 : decode cL_law 1362 = .ok (.iload 6, 2) := by decide +kernel
theorem dL_law_1364 : decode cL_law 1364 = .ok (.i2l, 1) := by decide +kernel
theorem dL_law_1365 : decode cL_law 1365 = .ok (.lcmp, 1) := by decide +kernel
theorem dL_law_1366 : decode cL_law 1366 = .ok (.ifCond .eq 5, 3) := by decide +kernel
theorem dL_law_1369 : decode cL_law 1369 = .ok (.iconst 0, 1) := by decide +kernel
theorem dL_law_1370 : decode cL_law 1370 = .ok (.ireturn, 1) := by decide +kernel
theorem dL_law_1371 : decode cL_law 1371 = .ok (.goto 61, 3) := by decide +kernel
theorem dL_law_1374 : decode cL_law 1374 = .ok (.aload_n 1, 1) := by decide +kernel
theorem dL_law_1375 : decode cL_law 1375 = .ok (.aload_n 3, 1) := by decide +kernel
theorem dL_law_1376 : decode cL_law 1376 = .ok (.invokestatic 167, 3) := by decide +kernel
theorem dL_law_1379 : decode cL_law 1379 = .ok (.istore 5, 2) := by decide +kernel
theorem dL_law_1381 : decode cL_law 1381 = .ok (.aload_n 2, 1) := by decide +kernel
theorem dL_law_1382 : decode cL_law 1382 = .ok (.invokevirtual 169, 3) := by decide +kernel
theorem dL_law_1385 : decode cL_law 1385 = .ok (.istore 6, 2) := by decide +kernel
theorem dL_law_1387 : decode cL_law 1387 = .ok (.aload_n 2, 1) := by decide +kernel
theorem dL_law_1388 : decode cL_law 1388 = .ok (.invokevirtual 86, 3) := by decide +kernel
theorem dL_law_1391 : decode cL_law 1391 = .ok (.iload 5, 2) := by decide +kernel
theorem dL_law_1393 : decode cL_law 1393 = .ok (.if_icmp .eq 5, 3) := by decide +kernel
theorem dL_law_1396 : decode cL_law 1396 = .ok (.iconst 0, 1) := by decide +kernel
theorem dL_law_1397 : decode cL_law 1397 = .ok (.ireturn, 1) := by decide +kernel
theorem dL_law_1398 : decode cL_law 1398 = .ok (.iload 5, 2) := by decide +kernel
theorem dL_law_1400 : decode cL_law 1400 = .ok (.ifCond .ne 15, 3) := by decide +kernel
theorem dL_law_1403 : decode cL_law 1403 = .ok (.aload_n 3, 1) := by decide +kernel
theorem dL_law_1404 : decode cL_law 1404 = .ok (.iconst 0, 1) := by decide +kernel
theorem dL_law_1405 : decode cL_law 1405 = .ok (.laload, 1) := by decide +kernel
theorem dL_law_1406 : decode cL_law 1406 = .ok (.iload 6, 2) := by decide +kernel
theorem dL_law_1408 : decode cL_law 1408 = .ok (.i2l, 1) := by decide +kernel
theorem dL_law_1409 : decode cL_law 1409 = .ok (.lcmp, 1) := by decide +kernel
theorem dL_law_1410 : decode cL_law 1410 = .ok (.ifCond .eq 5, 3) := by decide +kernel
theorem dL_law_1413 : decode cL_law 1413 = .ok (.iconst 0, 1) := by decide +kernel
theorem dL_law_1414 : decode cL_law 1414 = .ok (.ireturn, 1) := by decide +kernel
theorem dL_law_1415 : decode cL_law 1415 = .ok (.goto 17, 3) := by decide +kernel
theorem dL_law_1418 : decode cL_law 1418 = .ok (.aload_n 1, 1) := by decide +kernel
theorem dL_law_1419 : decode cL_law 1419 = .ok (.invokevirtual 170, 3) := by decide +kernel
theorem dL_law_1422 : decode cL_law 1422 = .ok (.aload_n 2, 1) := by decide +kernel
theorem dL_law_1423 : decode cL_law 1423 = .ok (.invokevirtual 174, 3) := by decide +kernel
theorem dL_law_1426 : decode cL_law 1426 = .ok (.lcmp, 1) := by decide +kernel
theorem dL_law_1427 : decode cL_law 1427 = .ok (.ifCond .eq 5, 3) := by decide +kernel
theorem dL_law_1430 : decode cL_law 1430 = .ok (.iconst 0, 1) := by decide +kernel
theorem dL_law_1431 : decode cL_law 1431 = .ok (.ireturn, 1) := by decide +kernel
theorem dL_law_1432 : decode cL_law 1432 = .ok (.iinc 4 4, 3) := by decide +kernel
theorem dL_law_1435 : decode cL_law 1435 = .ok (.goto (-1412), 3) := by decide +kernel
theorem dL_law_1438 : decode cL_law 1438 = .ok (.iconst 1, 1) := by decide +kernel
theorem dL_law_1439 : decode cL_law 1439 = .ok (.ireturn, 1) := by decide +kernel

theorem dX5_game_48 : decode cX5_game 48 = .ok (.aload_n 0, 1) := by decide +kernel
theorem dX5_game_49 : decode cX5_game 49 = .ok (.getfield 37, 3) := by decide +kernel
theorem dX5_game_52 : decode cX5_game 52 = .ok (.iload_n 1, 1) := by decide +kernel
theorem dX5_game_53 : decode cX5_game 53 = .ok (.iload_n 2, 1) := by decide +kernel
theorem dX5_game_54 : decode cX5_game 54 = .ok (.invokestatic 274, 3) := by decide +kernel
theorem dX5_game_57 : decode cX5_game 57 = .ok (.bipush (-9), 2) := by decide +kernel
theorem dX5_game_59 : decode cX5_game 59 = .ok (.if_icmp .ne 7, 3) := by decide +kernel
theorem dX5_game_62 : decode cX5_game 62 = .ok (.iconst 0, 1) := by decide +kernel
theorem dX5_game_63 : decode cX5_game 63 = .ok (.goto 4, 3) := by decide +kernel
theorem dX5_game_66 : decode cX5_game 66 = .ok (.iconst 1, 1) := by decide +kernel
theorem dX5_game_67 : decode cX5_game 67 = .ok (.ireturn, 1) := by decide +kernel
theorem dX5_begin_0 : decode cX5_begin 0 = .ok (.iload_n 1, 1) := by decide +kernel
theorem dX5_begin_1 : decode cX5_begin 1 = .ok (.invokestatic 157, 3) := by decide +kernel
theorem dX5_begin_4 : decode cX5_begin 4 = .ok (.ifCond .eq 12, 3) := by decide +kernel
theorem dX5_begin_7 : decode cX5_begin 7 = .ok (.iload_n 2, 1) := by decide +kernel
theorem dX5_begin_8 : decode cX5_begin 8 = .ok (.ifCond .lt 8, 3) := by decide +kernel
theorem dX5_begin_11 : decode cX5_begin 11 = .ok (.iload_n 2, 1) := by decide +kernel
theorem dX5_begin_12 : decode cX5_begin 12 = .ok (.iconst 4, 1) := by decide +kernel
theorem dX5_begin_13 : decode cX5_begin 13 = .ok (.if_icmp .le 5, 3) := by decide +kernel
theorem dX5_begin_16 : decode cX5_begin 16 = .ok (.iconst (-1), 1) := by decide +kernel
theorem dX5_begin_17 : decode cX5_begin 17 = .ok (.ireturn, 1) := by decide +kernel
theorem dX5_begin_18 : decode cX5_begin 18 = .ok (.aload_n 0, 1) := by decide +kernel
theorem dX5_begin_19 : decode cX5_begin 19 = .ok (.getfield 26, 3) := by decide +kernel
theorem dX5_begin_22 : decode cX5_begin 22 = .ok (.getfield 125, 3) := by decide +kernel
theorem dX5_begin_25 : decode cX5_begin 25 = .ok (.invokevirtual 121, 3) := by decide +kernel
theorem dX5_begin_28 : decode cX5_begin 28 = .ok (.ifCond .ne 6, 3) := by decide +kernel
theorem dX5_begin_31 : decode cX5_begin 31 = .ok (.bipush (-4), 2) := by decide +kernel
theorem dX5_begin_33 : decode cX5_begin 33 = .ok (.ireturn, 1) := by decide +kernel
theorem dX5_begin_34 : decode cX5_begin 34 = .ok (.aload_n 0, 1) := by decide +kernel
theorem dX5_begin_35 : decode cX5_begin 35 = .ok (.getfield 37, 3) := by decide +kernel
theorem dX5_begin_38 : decode cX5_begin 38 = .ok (.aload_n 0, 1) := by decide +kernel
theorem dX5_begin_39 : decode cX5_begin 39 = .ok (.getfield 26, 3) := by decide +kernel
theorem dX5_begin_42 : decode cX5_begin 42 = .ok (.getfield 125, 3) := by decide +kernel
theorem dX5_begin_45 : decode cX5_begin 45 = .ok (.invokevirtual 235, 3) := by decide +kernel
theorem dX5_begin_48 : decode cX5_begin 48 = .ok (.aload_n 0, 1) := by decide +kernel
theorem dX5_begin_49 : decode cX5_begin 49 = .ok (.getfield 37, 3) := by decide +kernel
theorem dX5_begin_52 : decode cX5_begin 52 = .ok (.iload_n 1, 1) := by decide +kernel
theorem dX5_begin_53 : decode cX5_begin 53 = .ok (.iload_n 2, 1) := by decide +kernel
theorem dX5_begin_54 : decode cX5_begin 54 = .ok (.invokestatic 274, 3) := by decide +kernel
theorem dX5_begin_57 : decode cX5_begin 57 = .ok (.ireturn, 1) := by decide +kernel
theorem dX5_fog_0 : decode cX5_fog 0 = .ok (.aload_n 0, 1) := by decide +kernel
theorem dX5_fog_1 : decode cX5_fog 1 = .ok (.getfield 14, 3) := by decide +kernel
theorem dX5_fog_4 : decode cX5_fog 4 = .ok (.iload_n 1, 1) := by decide +kernel
theorem dX5_fog_5 : decode cX5_fog 5 = .ok (.invokevirtual 63, 3) := by decide +kernel
theorem dX5_fog_8 : decode cX5_fog 8 = .ok (.ifCond .ne 5, 3) := by decide +kernel
theorem dX5_fog_11 : decode cX5_fog 11 = .ok (.iconst (-1), 1) := by decide +kernel
theorem dX5_fog_12 : decode cX5_fog 12 = .ok (.ireturn, 1) := by decide +kernel
theorem dX5_fog_13 : decode cX5_fog 13 = .ok (.aload_n 0, 1) := by decide +kernel
theorem dX5_fog_14 : decode cX5_fog 14 = .ok (.getfield 14, 3) := by decide +kernel
theorem dX5_fog_17 : decode cX5_fog 17 = .ok (.iload_n 1, 1) := by decide +kernel
theorem dX5_fog_18 : decode cX5_fog 18 = .ok (.invokevirtual 75, 3) := by decide +kernel
theorem dX5_fog_21 : decode cX5_fog 21 = .ok (.ifCond .ne 9, 3) := by decide +kernel
theorem dX5_fog_24 : decode cX5_fog 24 = .ok (.aload_n 0, 1) := by decide +kernel
theorem dX5_fog_25 : decode cX5_fog 25 = .ok (.iconst 1, 1) := by decide +kernel
theorem dX5_fog_26 : decode cX5_fog 26 = .ok (.invokevirtual 67, 3) := by decide +kernel
theorem dX5_fog_29 : decode cX5_fog 29 = .ok (.ireturn, 1) := by decide +kernel
theorem dX5_fog_30 : decode cX5_fog 30 = .ok (.aload_n 0, 1) := by decide +kernel
theorem dX5_fog_31 : decode cX5_fog 31 = .ok (.getfield 14, 3) := by decide +kernel
theorem dX5_fog_34 : decode cX5_fog 34 = .ok (.iload_n 1, 1) := by decide +kernel
theorem dX5_fog_35 : decode cX5_fog 35 = .ok (.invokevirtual 104, 3) := by decide +kernel
theorem dX5_fog_38 : decode cX5_fog 38 = .ok (.aload_n 0, 1) := by decide +kernel
theorem dX5_fog_39 : decode cX5_fog 39 = .ok (.getfield 26, 3) := by decide +kernel
theorem dX5_fog_42 : decode cX5_fog 42 = .ok (.getfield 125, 3) := by decide +kernel
theorem dX5_fog_45 : decode cX5_fog 45 = .ok (.invokevirtual 223, 3) := by decide +kernel
theorem dX5_fog_48 : decode cX5_fog 48 = .ok (.if_icmp .eq 9, 3) := by decide +kernel
theorem dX5_fog_51 : decode cX5_fog 51 = .ok (.aload_n 0, 1) := by decide +kernel
theorem dX5_fog_52 : decode cX5_fog 52 = .ok (.iconst 5, 1) := by decide +kernel
theorem dX5_fog_53 : decode cX5_fog 53 = .ok (.invokevirtual 67, 3) := by decide +kernel
theorem dX5_fog_56 : decode cX5_fog 56 = .ok (.ireturn, 1) := by decide +kernel
theorem dX5_fog_57 : decode cX5_fog 57 = .ok (.aload_n 0, 1) := by decide +kernel
theorem dX5_fog_58 : decode cX5_fog 58 = .ok (.getfield 44, 3) := by decide +kernel
theorem dX5_fog_61 : decode cX5_fog 61 = .ok (.aload_n 0, 1) := by decide +kernel
theorem dX5_fog_62 : decode cX5_fog 62 = .ok (.getfield 26, 3) := by decide +kernel
theorem dX5_fog_65 : decode cX5_fog 65 = .ok (.getfield 125, 3) := by decide +kernel
theorem dX5_fog_68 : decode cX5_fog 68 = .ok (.invokevirtual 138, 3) := by decide +kernel
theorem dX5_fog_71 : decode cX5_fog 71 = .ok (.iconst 0, 1) := by decide +kernel
theorem dX5_fog_72 : decode cX5_fog 72 = .ok (.istore_n 2, 1) := by decide +kernel
theorem dX5_fog_73 : decode cX5_fog 73 = .ok (.bipush (-9), 2) := by decide +kernel
theorem dX5_fog_75 : decode cX5_fog 75 = .ok (.istore_n 3, 1) := by decide +kernel
theorem dX5_fog_76 : decode cX5_fog 76 = .ok (.iconst 0, 1) := by decide +kernel
theorem dX5_fog_77 : decode cX5_fog 77 = .ok (.istore 4, 2) := by decide +kernel
theorem dX5_fog_79 : decode cX5_fog 79 = .ok (.iload 4, 2) := by decide +kernel
theorem dX5_fog_81 : decode cX5_fog 81 = .ok (.bipush 31, 2) := by decide +kernel
theorem dX5_fog_83 : decode cX5_fog 83 = .ok (.if_icmp .gt 33, 3) := by decide +kernel
theorem dX5_fog_86 : decode cX5_fog 86 = .ok (.aload_n 0, 1) := by decide +kernel
theorem dX5_fog_87 : decode cX5_fog 87 = .ok (.iload_n 1, 1) := by decide +kernel
theorem dX5_fog_88 : decode cX5_fog 88 = .ok (.iload 4, 2) := by decide +kernel
theorem dX5_fog_90 : decode cX5_fog 90 = .ok (.invokevirtual 278, 3) := by decide +kernel
theorem dX5_fog_93 : decode cX5_fog 93 = .ok (.ifCond .eq 17, 3) := by decide +kernel
theorem dX5_fog_96 : decode cX5_fog 96 = .ok (.iload_n 2, 1) := by decide +kernel
theorem dX5_fog_97 : decode cX5_fog 97 = .ok (.ifCond .ne 8, 3) := by decide +kernel
theorem dX5_fog_100 : decode cX5_fog 100 = .ok (.iload 4, 2) := by decide +kernel
theorem dX5_fog_102 : decode cX5_fog 102 = .ok (.goto 4, 3) := by decide +kernel
theorem dX5_fog_105 : decode cX5_fog 105 = .ok (.iload_n 3, 1) := by decide +kernel
theorem dX5_fog_106 : decode cX5_fog 106 = .ok (.istore_n 3, 1) := by decide +kernel
theorem dX5_fog_107 : decode cX5_fog 107 = .ok (.iinc 2 1, 3) := by decide +kernel
theorem dX5_fog_110 : decode cX5_fog 110 = .ok (.iinc 4 1, 3) := by decide +kernel
theorem dX5_fog_113 : decode cX5_fog 113 = .ok (.goto (-34), 3) := by decide +kernel
theorem dX5_fog_116 : decode cX5_fog 116 = .ok (.aload_n 0, 1) := by decide +kernel
theorem dX5_fog_117 : decode cX5_fog 117 = .ok (.iload_n 3, 1) := by decide +kernel
theorem dX5_fog_118 : decode cX5_fog 118 = .ok (.putfield 86, 3) := by decide +kernel
theorem dX5_fog_121 : decode cX5_fog 121 = .ok (.iload_n 2, 1) := by decide +kernel
theorem dX5_fog_122 : decode cX5_fog 122 = .ok (.ireturn, 1) := by decide +kernel
theorem dX5_kinds_0 : decode cX5_kinds 0 = .ok (.aload_n 0, 1) := by decide +kernel
theorem dX5_kinds_1 : decode cX5_kinds 1 = .ok (.iload_n 1, 1) := by decide +kernel
theorem dX5_kinds_2 : decode cX5_kinds 2 = .ok (.iload_n 2, 1) := by decide +kernel
theorem dX5_kinds_3 : decode cX5_kinds 3 = .ok (.invokevirtual 134, 3) := by decide +kernel
theorem dX5_kinds_6 : decode cX5_kinds 6 = .ok (.ifCond .ne 14, 3) := by decide +kernel
theorem dX5_kinds_9 : decode cX5_kinds 9 = .ok (.aload_n 0, 1) := by decide +kernel
theorem dX5_kinds_10 : decode cX5_kinds 10 = .ok (.getfield 14, 3) := by decide +kernel
theorem dX5_kinds_13 : decode cX5_kinds 13 = .ok (.iload_n 3, 1) := by decide +kernel
theorem dX5_kinds_14 : decode cX5_kinds 14 = .ok (.invokevirtual 63, 3) := by decide +kernel
theorem dX5_kinds_17 : decode cX5_kinds 17 = .ok (.ifCond .ne 5, 3) := by decide +kernel
theorem dX5_kinds_20 : decode cX5_kinds 20 = .ok (.iconst (-1), 1) := by decide +kernel
theorem dX5_kinds_21 : decode cX5_kinds 21 = .ok (.ireturn, 1) := by decide +kernel
theorem dX5_kinds_22 : decode cX5_kinds 22 = .ok (.aload_n 0, 1) := by decide +kernel
theorem dX5_kinds_23 : decode cX5_kinds 23 = .ok (.getfield 26, 3) := by decide +kernel
theorem dX5_kinds_26 : decode cX5_kinds 26 = .ok (.getfield 125, 3) := by decide +kernel
theorem dX5_kinds_29 : decode cX5_kinds 29 = .ok (.iload_n 1, 1) := by decide +kernel
theorem dX5_kinds_30 : decode cX5_kinds 30 = .ok (.iload_n 2, 1) := by decide +kernel
theorem dX5_kinds_31 : decode cX5_kinds 31 = .ok (.invokevirtual 137, 3) := by decide +kernel
theorem dX5_kinds_34 : decode cX5_kinds 34 = .ok (.ifCond .ne 9, 3) := by decide +kernel
theorem dX5_kinds_37 : decode cX5_kinds 37 = .ok (.aload_n 0, 1) := by decide +kernel
theorem dX5_kinds_38 : decode cX5_kinds 38 = .ok (.iconst 2, 1) := by decide +kernel
theorem dX5_kinds_39 : decode cX5_kinds 39 = .ok (.invokevirtual 67, 3) := by decide +kernel
theorem dX5_kinds_42 : decode cX5_kinds 42 = .ok (.ireturn, 1) := by decide +kernel
theorem dX5_kinds_43 : decode cX5_kinds 43 = .ok (.aload_n 0, 1) := by decide +kernel
theorem dX5_kinds_44 : decode cX5_kinds 44 = .ok (.getfield 14, 3) := by decide +kernel
theorem dX5_kinds_47 : decode cX5_kinds 47 = .ok (.iload_n 3, 1) := by decide +kernel
theorem dX5_kinds_48 : decode cX5_kinds 48 = .ok (.invokevirtual 75, 3) := by decide +kernel
theorem dX5_kinds_51 : decode cX5_kinds 51 = .ok (.ifCond .ne 9, 3) := by decide +kernel
theorem dX5_kinds_54 : decode cX5_kinds 54 = .ok (.aload_n 0, 1) := by decide +kernel
theorem dX5_kinds_55 : decode cX5_kinds 55 = .ok (.iconst 1, 1) := by decide +kernel
theorem dX5_kinds_56 : decode cX5_kinds 56 = .ok (.invokevirtual 67, 3) := by decide +kernel
theorem dX5_kinds_59 : decode cX5_kinds 59 = .ok (.ireturn, 1) := by decide +kernel
theorem dX5_kinds_60 : decode cX5_kinds 60 = .ok (.aload_n 0, 1) := by decide +kernel
theorem dX5_kinds_61 : decode cX5_kinds 61 = .ok (.getfield 14, 3) := by decide +kernel
theorem dX5_kinds_64 : decode cX5_kinds 64 = .ok (.iload_n 3, 1) := by decide +kernel
theorem dX5_kinds_65 : decode cX5_kinds 65 = .ok (.invokevirtual 104, 3) := by decide +kernel
theorem dX5_kinds_68 : decode cX5_kinds 68 = .ok (.aload_n 0, 1) := by decide +kernel
theorem dX5_kinds_69 : decode cX5_kinds 69 = .ok (.getfield 26, 3) := by decide +kernel
theorem dX5_kinds_72 : decode cX5_kinds 72 = .ok (.getfield 125, 3) := by decide +kernel
theorem dX5_kinds_75 : decode cX5_kinds 75 = .ok (.invokevirtual 223, 3) := by decide +kernel
theorem dX5_kinds_78 : decode cX5_kinds 78 = .ok (.if_icmp .eq 9, 3) := by decide +kernel
theorem dX5_kinds_81 : decode cX5_kinds 81 = .ok (.aload_n 0, 1) := by decide +kernel
theorem dX5_kinds_82 : decode cX5_kinds 82 = .ok (.iconst 5, 1) := by decide +kernel
theorem dX5_kinds_83 : decode cX5_kinds 83 = .ok (.invokevirtual 67, 3) := by decide +kernel
theorem dX5_kinds_86 : decode cX5_kinds 86 = .ok (.ireturn, 1) := by decide +kernel
theorem dX5_kinds_87 : decode cX5_kinds 87 = .ok (.aload_n 0, 1) := by decide +kernel
theorem dX5_kinds_88 : decode cX5_kinds 88 = .ok (.getfield 37, 3) := by decide +kernel
theorem dX5_kinds_91 : decode cX5_kinds 91 = .ok (.aload_n 0, 1) := by decide +kernel
theorem dX5_kinds_92 : decode cX5_kinds 92 = .ok (.getfield 26, 3) := by decide +kernel
theorem dX5_kinds_95 : decode cX5_kinds 95 = .ok (.getfield 125, 3) := by decide +kernel
theorem dX5_kinds_98 : decode cX5_kinds 98 = .ok (.invokevirtual 235, 3) := by decide +kernel
theorem dX5_kinds_101 : decode cX5_kinds 101 = .ok (.iconst 0, 1) := by decide +kernel
theorem dX5_kinds_102 : decode cX5_kinds 102 = .ok (.istore 4, 2) := by decide +kernel
theorem dX5_kinds_104 : decode cX5_kinds 104 = .ok (.iconst 0, 1) := by decide +kernel
theorem dX5_kinds_105 : decode cX5_kinds 105 = .ok (.istore 5, 2) := by decide +kernel
theorem dX5_kinds_107 : decode cX5_kinds 107 = .ok (.iload 5, 2) := by decide +kernel
theorem dX5_kinds_109 : decode cX5_kinds 109 = .ok (.bipush 6, 2) := by decide +kernel
theorem dX5_kinds_111 : decode cX5_kinds 111 = .ok (.if_icmp .ge 58, 3) := by decide +kernel
theorem dX5_kinds_114 : decode cX5_kinds 114 = .ok (.aload_n 0, 1) := by decide +kernel
theorem dX5_kinds_115 : decode cX5_kinds 115 = .ok (.getfield 37, 3) := by decide +kernel
theorem dX5_kinds_118 : decode cX5_kinds 118 = .ok (.iload_n 1, 1) := by decide +kernel
theorem dX5_kinds_119 : decode cX5_kinds 119 = .ok (.iload_n 2, 1) := by decide +kernel
theorem dX5_kinds_120 : decode cX5_kinds 120 = .ok (.iload 5, 2) := by decide +kernel
theorem dX5_kinds_122 : decode cX5_kinds 122 = .ok (.aload_n 0, 1) := by decide +kernel
theorem dX5_kinds_123 : decode cX5_kinds 123 = .ok (.getfield 37, 3) := by decide +kernel
theorem dX5_kinds_126 : decode cX5_kinds 126 = .ok (.iload_n 1, 1) := by decide +kernel
theorem dX5_kinds_127 : decode cX5_kinds 127 = .ok (.iload_n 2, 1) := by decide +kernel
theorem dX5_kinds_128 : decode cX5_kinds 128 = .ok (.invokevirtual 160, 3) := by decide +kernel
theorem dX5_kinds_131 : decode cX5_kinds 131 = .ok (.invokevirtual 163, 3) := by decide +kernel
theorem dX5_kinds_134 : decode cX5_kinds 134 = .ok (.aload_n 0, 1) := by decide +kernel
theorem dX5_kinds_135 : decode cX5_kinds 135 = .ok (.getfield 44, 3) := by decide +kernel
theorem dX5_kinds_138 : decode cX5_kinds 138 = .ok (.aload_n 0, 1) := by decide +kernel
theorem dX5_kinds_139 : decode cX5_kinds 139 = .ok (.getfield 37, 3) := by decide +kernel
theorem dX5_kinds_142 : decode cX5_kinds 142 = .ok (.invokevirtual 138, 3) := by decide +kernel
theorem dX5_kinds_145 : decode cX5_kinds 145 = .ok (.aload_n 0, 1) := by decide +kernel
theorem dX5_kinds_146 : decode cX5_kinds 146 = .ok (.iload_n 3, 1) := by decide +kernel
theorem dX5_kinds_147 : decode cX5_kinds 147 = .ok (.iconst 0, 1) := by decide +kernel
theorem dX5_kinds_148 : decode cX5_kinds 148 = .ok (.invokevirtual 278, 3) := by decide +kernel
theorem dX5_kinds_151 : decode cX5_kinds 151 = .ok (.ifCond .eq 12, 3) := by decide +kernel
theorem dX5_kinds_154 : decode cX5_kinds 154 = .ok (.iload 4, 2) := by decide +kernel
theorem dX5_kinds_156 : decode cX5_kinds 156 = .ok (.iconst 1, 1) := by decide +kernel
theorem dX5_kinds_157 : decode cX5_kinds 157 = .ok (.iload 5, 2) := by decide +kernel
theorem dX5_kinds_159 : decode cX5_kinds 159 = .ok (.ishl, 1) := by decide +kernel
theorem dX5_kinds_160 : decode cX5_kinds 160 = .ok (.ior, 1) := by decide +kernel
theorem dX5_kinds_161 : decode cX5_kinds 161 = .ok (.istore 4, 2) := by decide +kernel
theorem dX5_kinds_163 : decode cX5_kinds 163 = .ok (.iinc 5 1, 3) := by decide +kernel
theorem dX5_kinds_166 : decode cX5_kinds 166 = .ok (.goto (-59), 3) := by decide +kernel
theorem dX5_kinds_169 : decode cX5_kinds 169 = .ok (.iload 4, 2) := by decide +kernel
theorem dX5_kinds_171 : decode cX5_kinds 171 = .ok (.ireturn, 1) := by decide +kernel
theorem dX5_odds_0 : decode cX5_odds 0 = .ok (.aload_n 0, 1) := by decide +kernel
theorem dX5_odds_1 : decode cX5_odds 1 = .ok (.iload_n 1, 1) := by decide +kernel
theorem dX5_odds_2 : decode cX5_odds 2 = .ok (.iload_n 2, 1) := by decide +kernel
theorem dX5_odds_3 : decode cX5_odds 3 = .ok (.invokevirtual 134, 3) := by decide +kernel
theorem dX5_odds_6 : decode cX5_odds 6 = .ok (.ifCond .eq 5, 3) := by decide +kernel
theorem dX5_odds_9 : decode cX5_odds 9 = .ok (.iconst (-1), 1) := by decide +kernel
theorem dX5_odds_10 : decode cX5_odds 10 = .ok (.ireturn, 1) := by decide +kernel
theorem dX5_odds_11 : decode cX5_odds 11 = .ok (.aload_n 0, 1) := by decide +kernel
theorem dX5_odds_12 : decode cX5_odds 12 = .ok (.getfield 26, 3) := by decide +kernel
theorem dX5_odds_15 : decode cX5_odds 15 = .ok (.getfield 125, 3) := by decide +kernel
theorem dX5_odds_18 : decode cX5_odds 18 = .ok (.iload_n 1, 1) := by decide +kernel
theorem dX5_odds_19 : decode cX5_odds 19 = .ok (.iload_n 2, 1) := by decide +kernel
theorem dX5_odds_20 : decode cX5_odds 20 = .ok (.invokevirtual 137, 3) := by decide +kernel
theorem dX5_odds_23 : decode cX5_odds 23 = .ok (.ifCond .ne 9, 3) := by decide +kernel
theorem dX5_odds_26 : decode cX5_odds 26 = .ok (.aload_n 0, 1) := by decide +kernel
theorem dX5_odds_27 : decode cX5_odds 27 = .ok (.iconst 2, 1) := by decide +kernel
theorem dX5_odds_28 : decode cX5_odds 28 = .ok (.invokevirtual 67, 3) := by decide +kernel
theorem dX5_odds_31 : decode cX5_odds 31 = .ok (.ireturn, 1) := by decide +kernel
theorem dX5_odds_32 : decode cX5_odds 32 = .ok (.aload_n 0, 1) := by decide +kernel
theorem dX5_odds_33 : decode cX5_odds 33 = .ok (.getfield 26, 3) := by decide +kernel
theorem dX5_odds_36 : decode cX5_odds 36 = .ok (.getfield 125, 3) := by decide +kernel
theorem dX5_odds_39 : decode cX5_odds 39 = .ok (.iload_n 1, 1) := by decide +kernel
theorem dX5_odds_40 : decode cX5_odds 40 = .ok (.iload_n 2, 1) := by decide +kernel
theorem dX5_odds_41 : decode cX5_odds 41 = .ok (.invokevirtual 205, 3) := by decide +kernel
theorem dX5_odds_44 : decode cX5_odds 44 = .ok (.invokestatic 244, 3) := by decide +kernel
theorem dX5_odds_47 : decode cX5_odds 47 = .ok (.istore_n 3, 1) := by decide +kernel
theorem dX5_odds_48 : decode cX5_odds 48 = .ok (.iload_n 3, 1) := by decide +kernel
theorem dX5_odds_49 : decode cX5_odds 49 = .ok (.ifCond .eq 8, 3) := by decide +kernel
theorem dX5_odds_52 : decode cX5_odds 52 = .ok (.iload_n 3, 1) := by decide +kernel
theorem dX5_odds_53 : decode cX5_odds 53 = .ok (.iconst 5, 1) := by decide +kernel
theorem dX5_odds_54 : decode cX5_odds 54 = .ok (.if_icmp .ne 7, 3) := by decide +kernel
theorem dX5_odds_57 : decode cX5_odds 57 = .ok (.iconst 1, 1) := by decide +kernel
theorem dX5_odds_58 : decode cX5_odds 58 = .ok (.goto 4, 3) := by decide +kernel
theorem dX5_odds_61 : decode cX5_odds 61 = .ok (.iconst 0, 1) := by decide +kernel
theorem dX5_odds_62 : decode cX5_odds 62 = .ok (.istore 4, 2) := by decide +kernel
theorem dX5_odds_64 : decode cX5_odds 64 = .ok (.aload_n 0, 1) := by decide +kernel
theorem dX5_odds_65 : decode cX5_odds 65 = .ok (.iload 4, 2) := by decide +kernel
theorem dX5_odds_67 : decode cX5_odds 67 = .ok (.ifCond .eq 10, 3) := by decide +kernel
theorem dX5_odds_70 : decode cX5_odds 70 = .ok (.iload_n 3, 1) := by decide +kernel
theorem dX5_odds_71 : decode cX5_odds 71 = .ok (.iconst 5, 1) := by decide +kernel
theorem dX5_odds_72 : decode cX5_odds 72 = .ok (.idiv, 1) := by decide +kernel
theorem dX5_odds_73 : decode cX5_odds 73 = .ok (.i2l, 1) := by decide +kernel
theorem dX5_odds_74 : decode cX5_odds 74 = .ok (.goto 5, 3) := by decide +kernel
theorem dX5_odds_77 : decode cX5_odds 77 = .ok (.iload_n 3, 1) := by decide +kernel
theorem dX5_odds_78 : decode cX5_odds 78 = .ok (.i2l, 1) := by decide +kernel
theorem dX5_odds_79 : decode cX5_odds 79 = .ok (.putfield 281, 3) := by decide +kernel
theorem dX5_odds_82 : decode cX5_odds 82 = .ok (.aload_n 0, 1) := by decide +kernel
theorem dX5_odds_83 : decode cX5_odds 83 = .ok (.iload 4, 2) := by decide +kernel
theorem dX5_odds_85 : decode cX5_odds 85 = .ok (.ifCond .eq 7, 3) := by decide +kernel
theorem dX5_odds_88 : decode cX5_odds 88 = .ok (.lconst 1, 1) := by decide +kernel
theorem dX5_odds_89 : decode cX5_odds 89 = .ok (.goto 6, 3) := by decide +kernel
theorem dX5_odds_92 : decode cX5_odds 92 = .ok (.ldc2_w 284, 3) := by decide +kernel
theorem dX5_odds_95 : decode cX5_odds 95 = .ok (.putfield 59, 3) := by decide +kernel
theorem dX5_odds_98 : decode cX5_odds 98 = .ok (.iconst 1, 1) := by decide +kernel
theorem dX5_odds_99 : decode cX5_odds 99 = .ok (.ireturn, 1) := by decide +kernel
theorem dX5_lots_0 : decode cX5_lots 0 = .ok (.iload_n 1, 1) := by decide +kernel
theorem dX5_lots_1 : decode cX5_lots 1 = .ok (.iconst 1, 1) := by decide +kernel
theorem dX5_lots_2 : decode cX5_lots 2 = .ok (.if_icmp .lt 21, 3) := by decide +kernel
theorem dX5_lots_5 : decode cX5_lots 5 = .ok (.iload_n 1, 1) := by decide +kernel
theorem dX5_lots_6 : decode cX5_lots 6 = .ok (.bipush 12, 2) := by decide +kernel
theorem dX5_lots_8 : decode cX5_lots 8 = .ok (.if_icmp .gt 15, 3) := by decide +kernel
theorem dX5_lots_11 : decode cX5_lots 11 = .ok (.iload_n 2, 1) := by decide +kernel
theorem dX5_lots_12 : decode cX5_lots 12 = .ok (.iconst 1, 1) := by decide +kernel
theorem dX5_lots_13 : decode cX5_lots 13 = .ok (.if_icmp .lt 10, 3) := by decide +kernel
theorem dX5_lots_16 : decode cX5_lots 16 = .ok (.iload_n 2, 1) := by decide +kernel
theorem dX5_lots_17 : decode cX5_lots 17 = .ok (.ldc_w 286, 3) := by decide +kernel
theorem dX5_lots_20 : decode cX5_lots 20 = .ok (.if_icmp .lt 5, 3) := by decide +kernel
theorem dX5_lots_23 : decode cX5_lots 23 = .ok (.iconst (-1), 1) := by decide +kernel
theorem dX5_lots_24 : decode cX5_lots 24 = .ok (.ireturn, 1) := by decide +kernel
theorem dX5_lots_25 : decode cX5_lots 25 = .ok (.aload_n 0, 1) := by decide +kernel
theorem dX5_lots_26 : decode cX5_lots 26 = .ok (.getfield 26, 3) := by decide +kernel
theorem dX5_lots_29 : decode cX5_lots 29 = .ok (.getfield 125, 3) := by decide +kernel
theorem dX5_lots_32 : decode cX5_lots 32 = .ok (.invokevirtual 121, 3) := by decide +kernel
theorem dX5_lots_35 : decode cX5_lots 35 = .ok (.istore_n 3, 1) := by decide +kernel
theorem dX5_lots_36 : decode cX5_lots 36 = .ok (.iload_n 3, 1) := by decide +kernel
theorem dX5_lots_37 : decode cX5_lots 37 = .ok (.ifCond .ne 6, 3) := by decide +kernel
theorem dX5_lots_40 : decode cX5_lots 40 = .ok (.bipush (-4), 2) := by decide +kernel
theorem dX5_lots_42 : decode cX5_lots 42 = .ok (.ireturn, 1) := by decide +kernel
theorem dX5_lots_43 : decode cX5_lots 43 = .ok (.aload_n 0, 1) := by decide +kernel
theorem dX5_lots_44 : decode cX5_lots 44 = .ok (.getfield 26, 3) := by decide +kernel
theorem dX5_lots_47 : decode cX5_lots 47 = .ok (.iload_n 1, 1) := by decide +kernel
theorem dX5_lots_48 : decode cX5_lots 48 = .ok (.invokevirtual 170, 3) := by decide +kernel
theorem dX5_lots_51 : decode cX5_lots 51 = .ok (.ifCond .ne 6, 3) := by decide +kernel
theorem dX5_lots_54 : decode cX5_lots 54 = .ok (.bipush (-2), 2) := by decide +kernel
theorem dX5_lots_56 : decode cX5_lots 56 = .ok (.ireturn, 1) := by decide +kernel
theorem dX5_lots_57 : decode cX5_lots 57 = .ok (.iconst 0, 1) := by decide +kernel
theorem dX5_lots_58 : decode cX5_lots 58 = .ok (.istore 4, 2) := by decide +kernel
theorem dX5_lots_60 : decode cX5_lots 60 = .ok (.iload_n 2, 1) := by decide +kernel
theorem dX5_lots_61 : decode cX5_lots 61 = .ok (.i2l, 1) := by decide +kernel
theorem dX5_lots_62 : decode cX5_lots 62 = .ok (.lstore 5, 2) := by decide +kernel
theorem dX5_lots_64 : decode cX5_lots 64 = .ok (.iconst 0, 1) := by decide +kernel
theorem dX5_lots_65 : decode cX5_lots 65 = .ok (.istore 7, 2) := by decide +kernel
theorem dX5_lots_67 : decode cX5_lots 67 = .ok (.iload 7, 2) := by decide +kernel
theorem dX5_lots_69 : decode cX5_lots 69 = .ok (.iload_n 1, 1) := by decide +kernel
theorem dX5_lots_70 : decode cX5_lots 70 = .ok (.if_icmp .ge 63, 3) := by decide +kernel
theorem dX5_lots_73 : decode cX5_lots 73 = .ok (.lload 5, 2) := by decide +kernel
theorem dX5_lots_75 : decode cX5_lots 75 = .ok (.ldc2_w 287, 3) := by decide +kernel
theorem dX5_lots_78 : decode cX5_lots 78 = .ok (.lmul, 1) := by decide +kernel
theorem dX5_lots_79 : decode cX5_lots 79 = .ok (.ldc2_w 289, 3) := by decide +kernel
theorem dX5_lots_82 : decode cX5_lots 82 = .ok (.lrem, 1) := by decide +kernel
theorem dX5_lots_83 : decode cX5_lots 83 = .ok (.lstore 5, 2) := by decide +kernel
theorem dX5_lots_85 : decode cX5_lots 85 = .ok (.aload_n 0, 1) := by decide +kernel
theorem dX5_lots_86 : decode cX5_lots 86 = .ok (.lload 5, 2) := by decide +kernel
theorem dX5_lots_88 : decode cX5_lots 88 = .ok (.iload_n 3, 1) := by decide +kernel
theorem dX5_lots_89 : decode cX5_lots 89 = .ok (.i2l, 1) := by decide +kernel
theorem dX5_lots_90 : decode cX5_lots 90 = .ok (.lrem, 1) := by decide +kernel
theorem dX5_lots_91 : decode cX5_lots 91 = .ok (.l2i, 1) := by decide +kernel
theorem dX5_lots_92 : decode cX5_lots 92 = .ok (.lload 5, 2) := by decide +kernel
theorem dX5_lots_94 : decode cX5_lots 94 = .ok (.ldc2_w 291, 3) := by decide +kernel
theorem dX5_lots_97 : decode cX5_lots 97 = .ok (.ldiv, 1) := by decide +kernel
theorem dX5_lots_98 : decode cX5_lots 98 = .ok (.ldc2_w 293, 3) := by decide +kernel
theorem dX5_lots_101 : decode cX5_lots 101 = .ok (.lrem, 1) := by decide +kernel
theorem dX5_lots_102 : decode cX5_lots 102 = .ok (.l2i, 1) := by decide +kernel
theorem dX5_lots_103 : decode cX5_lots 103 = .ok (.lload 5, 2) := by decide +kernel
theorem dX5_lots_105 : decode cX5_lots 105 = .ok (.ldc2_w 295, 3) := by decide +kernel
theorem dX5_lots_108 : decode cX5_lots 108 = .ok (.ldiv, 1) := by decide +kernel
theorem dX5_lots_109 : decode cX5_lots 109 = .ok (.ldc2_w 297, 3) := by decide +kernel
theorem dX5_lots_112 : decode cX5_lots 112 = .ok (.lrem, 1) := by decide +kernel
theorem dX5_lots_113 : decode cX5_lots 113 = .ok (.l2i, 1) := by decide +kernel
theorem dX5_lots_114 : decode cX5_lots 114 = .ok (.invokevirtual 299, 3) := by decide +kernel
theorem dX5_lots_117 : decode cX5_lots 117 = .ok (.istore 8, 2) := by decide +kernel
theorem dX5_lots_119 : decode cX5_lots 119 = .ok (.iload 8, 2) := by decide +kernel
theorem dX5_lots_121 : decode cX5_lots 121 = .ok (.ifCond .lt 6, 3) := by decide +kernel
theorem dX5_lots_124 : decode cX5_lots 124 = .ok (.iinc 4 1, 3) := by decide +kernel
theorem dX5_lots_127 : decode cX5_lots 127 = .ok (.iinc 7 1, 3) := by decide +kernel
theorem dX5_lots_130 : decode cX5_lots 130 = .ok (.goto (-63), 3) := by decide +kernel
theorem dX5_lots_133 : decode cX5_lots 133 = .ok (.iload 4, 2) := by decide +kernel
theorem dX5_lots_135 : decode cX5_lots 135 = .ok (.ireturn, 1) := by decide +kernel
theorem dX5_asked_0 : decode cX5_asked 0 = .ok (.aload_n 0, 1) := by decide +kernel
theorem dX5_asked_1 : decode cX5_asked 1 = .ok (.getfield 86, 3) := by decide +kernel
theorem dX5_asked_4 : decode cX5_asked 4 = .ok (.ireturn, 1) := by decide +kernel
theorem dX5_upper_0 : decode cX5_upper 0 = .ok (.aload_n 0, 1) := by decide +kernel
theorem dX5_upper_1 : decode cX5_upper 1 = .ok (.getfield 281, 3) := by decide +kernel
theorem dX5_upper_4 : decode cX5_upper 4 = .ok (.lreturn, 1) := by decide +kernel
theorem dX5_lower_0 : decode cX5_lower 0 = .ok (.aload_n 0, 1) := by decide +kernel
theorem dX5_lower_1 : decode cX5_lower 1 = .ok (.getfield 59, 3) := by decide +kernel
theorem dX5_lower_4 : decode cX5_lower 4 = .ok (.lreturn, 1) := by decide +kernel
theorem dX5_count_0 : decode cX5_count 0 = .ok (.iload_n 1, 1) := by decide +kernel
theorem dX5_count_1 : decode cX5_count 1 = .ok (.ifCond .lt 9, 3) := by decide +kernel
theorem dX5_count_4 : decode cX5_count 4 = .ok (.iload_n 1, 1) := by decide +kernel
theorem dX5_count_5 : decode cX5_count 5 = .ok (.bipush 8, 2) := by decide +kernel
theorem dX5_count_7 : decode cX5_count 7 = .ok (.if_icmp .le 5, 3) := by decide +kernel
theorem dX5_count_10 : decode cX5_count 10 = .ok (.iconst (-1), 1) := by decide +kernel
theorem dX5_count_11 : decode cX5_count 11 = .ok (.ireturn, 1) := by decide +kernel
theorem dX5_count_12 : decode cX5_count 12 = .ok (.iload_n 1, 1) := by decide +kernel
theorem dX5_count_13 : decode cX5_count 13 = .ok (.tableswitch 128 0 7 #[47, 58, 69, 77, 88, 100, 112, 120], 47) := by decide +kernel
theorem dX5_count_60 : decode cX5_count 60 = .ok (.aload_n 0, 1) := by decide +kernel
theorem dX5_count_61 : decode cX5_count 61 = .ok (.getfield 26, 3) := by decide +kernel
theorem dX5_count_64 : decode cX5_count 64 = .ok (.getfield 125, 3) := by decide +kernel
theorem dX5_count_67 : decode cX5_count 67 = .ok (.invokevirtual 121, 3) := by decide +kernel
theorem dX5_count_70 : decode cX5_count 70 = .ok (.ireturn, 1) := by decide +kernel
theorem dX5_count_71 : decode cX5_count 71 = .ok (.aload_n 0, 1) := by decide +kernel
theorem dX5_count_72 : decode cX5_count 72 = .ok (.getfield 26, 3) := by decide +kernel
theorem dX5_count_75 : decode cX5_count 75 = .ok (.getfield 125, 3) := by decide +kernel
theorem dX5_count_78 : decode cX5_count 78 = .ok (.invokevirtual 223, 3) := by decide +kernel
theorem dX5_count_81 : decode cX5_count 81 = .ok (.ireturn, 1) := by decide +kernel
theorem dX5_count_82 : decode cX5_count 82 = .ok (.aload_n 0, 1) := by decide +kernel
theorem dX5_count_83 : decode cX5_count 83 = .ok (.getfield 26, 3) := by decide +kernel
theorem dX5_count_86 : decode cX5_count 86 = .ok (.getfield 182, 3) := by decide +kernel
theorem dX5_count_89 : decode cX5_count 89 = .ok (.ireturn, 1) := by decide +kernel
theorem dX5_count_90 : decode cX5_count 90 = .ok (.aload_n 0, 1) := by decide +kernel
theorem dX5_count_91 : decode cX5_count 91 = .ok (.getfield 26, 3) := by decide +kernel
theorem dX5_count_94 : decode cX5_count 94 = .ok (.getfield 125, 3) := by decide +kernel
theorem dX5_count_97 : decode cX5_count 97 = .ok (.invokevirtual 302, 3) := by decide +kernel
theorem dX5_count_100 : decode cX5_count 100 = .ok (.ireturn, 1) := by decide +kernel
theorem dX5_count_101 : decode cX5_count 101 = .ok (.aload_n 0, 1) := by decide +kernel
theorem dX5_count_102 : decode cX5_count 102 = .ok (.getfield 26, 3) := by decide +kernel
theorem dX5_count_105 : decode cX5_count 105 = .ok (.getfield 125, 3) := by decide +kernel
theorem dX5_count_108 : decode cX5_count 108 = .ok (.iconst 1, 1) := by decide +kernel
theorem dX5_count_109 : decode cX5_count 109 = .ok (.invokevirtual 305, 3) := by decide +kernel
theorem dX5_count_112 : decode cX5_count 112 = .ok (.ireturn, 1) := by decide +kernel
theorem dX5_count_113 : decode cX5_count 113 = .ok (.aload_n 0, 1) := by decide +kernel
theorem dX5_count_114 : decode cX5_count 114 = .ok (.getfield 26, 3) := by decide +kernel
theorem dX5_count_117 : decode cX5_count 117 = .ok (.getfield 125, 3) := by decide +kernel
theorem dX5_count_120 : decode cX5_count 120 = .ok (.iconst 2, 1) := by decide +kernel
theorem dX5_count_121 : decode cX5_count 121 = .ok (.invokevirtual 305, 3) := by decide +kernel
theorem dX5_count_124 : decode cX5_count 124 = .ok (.ireturn, 1) := by decide +kernel
theorem dX5_count_125 : decode cX5_count 125 = .ok (.aload_n 0, 1) := by decide +kernel
theorem dX5_count_126 : decode cX5_count 126 = .ok (.getfield 14, 3) := by decide +kernel
theorem dX5_count_129 : decode cX5_count 129 = .ok (.invokevirtual 308, 3) := by decide +kernel
theorem dX5_count_132 : decode cX5_count 132 = .ok (.ireturn, 1) := by decide +kernel
theorem dX5_count_133 : decode cX5_count 133 = .ok (.aload_n 0, 1) := by decide +kernel
theorem dX5_count_134 : decode cX5_count 134 = .ok (.getfield 18, 3) := by decide +kernel
theorem dX5_count_137 : decode cX5_count 137 = .ok (.invokevirtual 308, 3) := by decide +kernel
theorem dX5_count_140 : decode cX5_count 140 = .ok (.ireturn, 1) := by decide +kernel
theorem dX5_count_141 : decode cX5_count 141 = .ok (.aload_n 0, 1) := by decide +kernel
theorem dX5_count_142 : decode cX5_count 142 = .ok (.invokevirtual 311, 3) := by decide +kernel
theorem dX5_count_145 : decode cX5_count 145 = .ok (.ireturn, 1) := by decide +kernel
theorem dX5_finding_0 : decode cX5_finding 0 = .ok (.aload_n 0, 1) := by decide +kernel
theorem dX5_finding_1 : decode cX5_finding 1 = .ok (.getfield 314, 3) := by decide +kernel
theorem dX5_finding_4 : decode cX5_finding 4 = .ok (.ireturn, 1) := by decide +kernel
theorem dX5_findings_0 : decode cX5_findings 0 = .ok (.iload_n 1, 1) := by decide +kernel
theorem dX5_findings_1 : decode cX5_findings 1 = .ok (.iconst 1, 1) := by decide +kernel
theorem dX5_findings_2 : decode cX5_findings 2 = .ok (.if_icmp .lt 8, 3) := by decide +kernel
theorem dX5_findings_5 : decode cX5_findings 5 = .ok (.iload_n 1, 1) := by decide +kernel
theorem dX5_findings_6 : decode cX5_findings 6 = .ok (.iconst 5, 1) := by decide +kernel
theorem dX5_findings_7 : decode cX5_findings 7 = .ok (.if_icmp .le 7, 3) := by decide +kernel
theorem dX5_findings_10 : decode cX5_findings 10 = .ok (.iconst (-1), 1) := by decide +kernel
theorem dX5_findings_11 : decode cX5_findings 11 = .ok (.goto 9, 3) := by decide +kernel
theorem dX5_findings_14 : decode cX5_findings 14 = .ok (.aload_n 0, 1) := by decide +kernel
theorem dX5_findings_15 : decode cX5_findings 15 = .ok (.getfield 55, 3) := by decide +kernel
theorem dX5_findings_18 : decode cX5_findings 18 = .ok (.iload_n 1, 1) := by decide +kernel
theorem dX5_findings_19 : decode cX5_findings 19 = .ok (.iaload, 1) := by decide +kernel
theorem dX5_findings_20 : decode cX5_findings 20 = .ok (.ireturn, 1) := by decide +kernel
theorem dX5_digest_0 : decode cX5_digest 0 = .ok (.ldc2_w 317, 3) := by decide +kernel
theorem dX5_digest_3 : decode cX5_digest 3 = .ok (.lstore_n 1, 1) := by decide +kernel
theorem dX5_digest_4 : decode cX5_digest 4 = .ok (.iconst 0, 1) := by decide +kernel
theorem dX5_digest_5 : decode cX5_digest 5 = .ok (.istore_n 3, 1) := by decide +kernel
theorem dX5_digest_6 : decode cX5_digest 6 = .ok (.iload_n 3, 1) := by decide +kernel
theorem dX5_digest_7 : decode cX5_digest 7 = .ok (.bipush 8, 2) := by decide +kernel
theorem dX5_digest_9 : decode cX5_digest 9 = .ok (.if_icmp .gt 22, 3) := by decide +kernel
theorem dX5_digest_12 : decode cX5_digest 12 = .ok (.ldc2_w 319, 3) := by decide +kernel
theorem dX5_digest_15 : decode cX5_digest 15 = .ok (.lload_n 1, 1) := by decide +kernel
theorem dX5_digest_16 : decode cX5_digest 16 = .ok (.lmul, 1) := by decide +kernel
theorem dX5_digest_17 : decode cX5_digest 17 = .ok (.aload_n 0, 1) := by decide +kernel
theorem dX5_digest_18 : decode cX5_digest 18 = .ok (.iload_n 3, 1) := by decide +kernel
theorem dX5_digest_19 : decode cX5_digest 19 = .ok (.invokevirtual 321, 3) := by decide +kernel
theorem dX5_digest_22 : decode cX5_digest 22 = .ok (.i2l, 1) := by decide +kernel
theorem dX5_digest_23 : decode cX5_digest 23 = .ok (.ladd, 1) := by decide +kernel
theorem dX5_digest_24 : decode cX5_digest 24 = .ok (.lstore_n 1, 1) := by decide +kernel
theorem dX5_digest_25 : decode cX5_digest 25 = .ok (.iinc 3 1, 3) := by decide +kernel
theorem dX5_digest_28 : decode cX5_digest 28 = .ok (.goto (-22), 3) := by decide +kernel
theorem dX5_digest_31 : decode cX5_digest 31 = .ok (.aload_n 0, 1) := by decide +kernel
theorem dX5_digest_32 : decode cX5_digest 32 = .ok (.lload_n 1, 1) := by decide +kernel
theorem dX5_digest_33 : decode cX5_digest 33 = .ok (.invokevirtual 324, 3) := by decide +kernel
theorem dX5_digest_36 : decode cX5_digest 36 = .ok (.lstore_n 1, 1) := by decide +kernel
theorem dX5_digest_37 : decode cX5_digest 37 = .ok (.iconst 0, 1) := by decide +kernel
theorem dX5_digest_38 : decode cX5_digest 38 = .ok (.istore_n 3, 1) := by decide +kernel
theorem dX5_digest_39 : decode cX5_digest 39 = .ok (.iload_n 3, 1) := by decide +kernel
theorem dX5_digest_40 : decode cX5_digest 40 = .ok (.iconst 3, 1) := by decide +kernel
theorem dX5_digest_41 : decode cX5_digest 41 = .ok (.if_icmp .ge 22, 3) := by decide +kernel
theorem dX5_digest_44 : decode cX5_digest 44 = .ok (.ldc2_w 319, 3) := by decide +kernel
theorem dX5_digest_47 : decode cX5_digest 47 = .ok (.lload_n 1, 1) := by decide +kernel
theorem dX5_digest_48 : decode cX5_digest 48 = .ok (.lmul, 1) := by decide +kernel
theorem dX5_digest_49 : decode cX5_digest 49 = .ok (.aload_n 0, 1) := by decide +kernel
theorem dX5_digest_50 : decode cX5_digest 50 = .ok (.iload_n 3, 1) := by decide +kernel
theorem dX5_digest_51 : decode cX5_digest 51 = .ok (.invokevirtual 328, 3) := by decide +kernel
theorem dX5_digest_54 : decode cX5_digest 54 = .ok (.i2l, 1) := by decide +kernel
theorem dX5_digest_55 : decode cX5_digest 55 = .ok (.ladd, 1) := by decide +kernel
theorem dX5_digest_56 : decode cX5_digest 56 = .ok (.lstore_n 1, 1) := by decide +kernel
theorem dX5_digest_57 : decode cX5_digest 57 = .ok (.iinc 3 1, 3) := by decide +kernel
theorem dX5_digest_60 : decode cX5_digest 60 = .ok (.goto (-21), 3) := by decide +kernel
theorem dX5_digest_63 : decode cX5_digest 63 = .ok (.aload_n 0, 1) := by decide +kernel
theorem dX5_digest_64 : decode cX5_digest 64 = .ok (.getfield 14, 3) := by decide +kernel
theorem dX5_digest_67 : decode cX5_digest 67 = .ok (.lload_n 1, 1) := by decide +kernel
theorem dX5_digest_68 : decode cX5_digest 68 = .ok (.invokevirtual 331, 3) := by decide +kernel
theorem dX5_digest_71 : decode cX5_digest 71 = .ok (.lstore_n 1, 1) := by decide +kernel
theorem dX5_digest_72 : decode cX5_digest 72 = .ok (.aload_n 0, 1) := by decide +kernel
theorem dX5_digest_73 : decode cX5_digest 73 = .ok (.getfield 18, 3) := by decide +kernel
theorem dX5_digest_76 : decode cX5_digest 76 = .ok (.lload_n 1, 1) := by decide +kernel
theorem dX5_digest_77 : decode cX5_digest 77 = .ok (.invokevirtual 331, 3) := by decide +kernel
theorem dX5_digest_80 : decode cX5_digest 80 = .ok (.lreturn, 1) := by decide +kernel
theorem dX5_found_0 : decode cX5_found 0 = .ok (.aload_n 0, 1) := by decide +kernel
theorem dX5_found_1 : decode cX5_found 1 = .ok (.iload_n 1, 1) := by decide +kernel
theorem dX5_found_2 : decode cX5_found 2 = .ok (.putfield 314, 3) := by decide +kernel
theorem dX5_found_5 : decode cX5_found 5 = .ok (.iload_n 1, 1) := by decide +kernel
theorem dX5_found_6 : decode cX5_found 6 = .ok (.ifCond .lt 22, 3) := by decide +kernel
theorem dX5_found_9 : decode cX5_found 9 = .ok (.iload_n 1, 1) := by decide +kernel
theorem dX5_found_10 : decode cX5_found 10 = .ok (.aload_n 0, 1) := by decide +kernel
theorem dX5_found_11 : decode cX5_found 11 = .ok (.getfield 55, 3) := by decide +kernel
theorem dX5_found_14 : decode cX5_found 14 = .ok (.arraylength, 1) := by decide +kernel
theorem dX5_found_15 : decode cX5_found 15 = .ok (.if_icmp .ge 13, 3) := by decide +kernel
theorem dX5_found_18 : decode cX5_found 18 = .ok (.aload_n 0, 1) := by decide +kernel
theorem dX5_found_19 : decode cX5_found 19 = .ok (.getfield 55, 3) := by decide +kernel
theorem dX5_found_22 : decode cX5_found 22 = .ok (.iload_n 1, 1) := by decide +kernel
theorem dX5_found_23 : decode cX5_found 23 = .ok (.dup2, 1) := by decide +kernel
theorem dX5_found_24 : decode cX5_found 24 = .ok (.iaload, 1) := by decide +kernel
theorem dX5_found_25 : decode cX5_found 25 = .ok (.iconst 1, 1) := by decide +kernel
theorem dX5_found_26 : decode cX5_found 26 = .ok (.iadd, 1) := by decide +kernel
theorem dX5_found_27 : decode cX5_found 27 = .ok (.iastore, 1) := by decide +kernel
theorem dX5_found_28 : decode cX5_found 28 = .ok (.bipush (-3), 2) := by decide +kernel
theorem dX5_found_30 : decode cX5_found 30 = .ok (.ireturn, 1) := by decide +kernel
theorem dX5_isNoPlace_0 : decode cX5_isNoPlace 0 = .ok (.aload_n 0, 1) := by decide +kernel
theorem dX5_isNoPlace_1 : decode cX5_isNoPlace 1 = .ok (.getfield 26, 3) := by decide +kernel
theorem dX5_isNoPlace_4 : decode cX5_isNoPlace 4 = .ok (.getfield 125, 3) := by decide +kernel
theorem dX5_isNoPlace_7 : decode cX5_isNoPlace 7 = .ok (.iload_n 1, 1) := by decide +kernel
theorem dX5_isNoPlace_8 : decode cX5_isNoPlace 8 = .ok (.invokevirtual 128, 3) := by decide +kernel
theorem dX5_isNoPlace_11 : decode cX5_isNoPlace 11 = .ok (.ifCond .eq 7, 3) := by decide +kernel
theorem dX5_isNoPlace_14 : decode cX5_isNoPlace 14 = .ok (.iload_n 2, 1) := by decide +kernel
theorem dX5_isNoPlace_15 : decode cX5_isNoPlace 15 = .ok (.ifCond .ge 7, 3) := by decide +kernel
theorem dX5_isNoPlace_18 : decode cX5_isNoPlace 18 = .ok (.iconst 1, 1) := by decide +kernel
theorem dX5_isNoPlace_19 : decode cX5_isNoPlace 19 = .ok (.goto 4, 3) := by decide +kernel
theorem dX5_isNoPlace_22 : decode cX5_isNoPlace 22 = .ok (.iconst 0, 1) := by decide +kernel
theorem dX5_isNoPlace_23 : decode cX5_isNoPlace 23 = .ok (.ireturn, 1) := by decide +kernel
theorem dX5_isKind_0 : decode cX5_isKind 0 = .ok (.iload_n 0, 1) := by decide +kernel
theorem dX5_isKind_1 : decode cX5_isKind 1 = .ok (.ifCond .lt 13, 3) := by decide +kernel
theorem dX5_isKind_4 : decode cX5_isKind 4 = .ok (.iload_n 0, 1) := by decide +kernel
theorem dX5_isKind_5 : decode cX5_isKind 5 = .ok (.bipush 6, 2) := by decide +kernel
theorem dX5_isKind_7 : decode cX5_isKind 7 = .ok (.if_icmp .ge 7, 3) := by decide +kernel
theorem dX5_isKind_10 : decode cX5_isKind 10 = .ok (.iconst 1, 1) := by decide +kernel
theorem dX5_isKind_11 : decode cX5_isKind 11 = .ok (.goto 4, 3) := by decide +kernel
theorem dX5_isKind_14 : decode cX5_isKind 14 = .ok (.iconst 0, 1) := by decide +kernel
theorem dX5_isKind_15 : decode cX5_isKind 15 = .ok (.ireturn, 1) := by decide +kernel
theorem dX5_isBorne_0 : decode cX5_isBorne 0 = .ok (.iload_n 0, 1) := by decide +kernel
theorem dX5_isBorne_1 : decode cX5_isBorne 1 = .ok (.ifCond .lt 13, 3) := by decide +kernel
theorem dX5_isBorne_4 : decode cX5_isBorne 4 = .ok (.iload_n 0, 1) := by decide +kernel
theorem dX5_isBorne_5 : decode cX5_isBorne 5 = .ok (.bipush 9, 2) := by decide +kernel
theorem dX5_isBorne_7 : decode cX5_isBorne 7 = .ok (.if_icmp .gt 7, 3) := by decide +kernel
theorem dX5_isBorne_10 : decode cX5_isBorne 10 = .ok (.iconst 1, 1) := by decide +kernel
theorem dX5_isBorne_11 : decode cX5_isBorne 11 = .ok (.goto 4, 3) := by decide +kernel
theorem dX5_isBorne_14 : decode cX5_isBorne 14 = .ok (.iconst 0, 1) := by decide +kernel
theorem dX5_isBorne_15 : decode cX5_isBorne 15 = .ok (.ireturn, 1) := by decide +kernel
theorem dX5_isOf_0 : decode cX5_isOf 0 = .ok (.iload_n 0, 1) := by decide +kernel
theorem dX5_isOf_1 : decode cX5_isOf 1 = .ok (.iload_n 1, 1) := by decide +kernel
theorem dX5_isOf_2 : decode cX5_isOf 2 = .ok (.if_icmp .eq 23, 3) := by decide +kernel
theorem dX5_isOf_5 : decode cX5_isOf 5 = .ok (.iload_n 0, 1) := by decide +kernel
theorem dX5_isOf_6 : decode cX5_isOf 6 = .ok (.iconst 4, 1) := by decide +kernel
theorem dX5_isOf_7 : decode cX5_isOf 7 = .ok (.if_icmp .ne 8, 3) := by decide +kernel
theorem dX5_isOf_10 : decode cX5_isOf 10 = .ok (.iload_n 1, 1) := by decide +kernel
theorem dX5_isOf_11 : decode cX5_isOf 11 = .ok (.iconst 1, 1) := by decide +kernel
theorem dX5_isOf_12 : decode cX5_isOf 12 = .ok (.if_icmp .eq 13, 3) := by decide +kernel
theorem dX5_isOf_15 : decode cX5_isOf 15 = .ok (.iload_n 0, 1) := by decide +kernel
theorem dX5_isOf_16 : decode cX5_isOf 16 = .ok (.iconst 5, 1) := by decide +kernel
theorem dX5_isOf_17 : decode cX5_isOf 17 = .ok (.if_icmp .ne 12, 3) := by decide +kernel
theorem dX5_isOf_20 : decode cX5_isOf 20 = .ok (.iload_n 1, 1) := by decide +kernel
theorem dX5_isOf_21 : decode cX5_isOf 21 = .ok (.iconst 2, 1) := by decide +kernel
theorem dX5_isOf_22 : decode cX5_isOf 22 = .ok (.if_icmp .ne 7, 3) := by decide +kernel
theorem dX5_isOf_25 : decode cX5_isOf 25 = .ok (.iconst 1, 1) := by decide +kernel
theorem dX5_isOf_26 : decode cX5_isOf 26 = .ok (.goto 4, 3) := by decide +kernel
theorem dX5_isOf_29 : decode cX5_isOf 29 = .ok (.iconst 0, 1) := by decide +kernel
theorem dX5_isOf_30 : decode cX5_isOf 30 = .ok (.ireturn, 1) := by decide +kernel
theorem dX5_kindOfLetter_0 : decode cX5_kindOfLetter 0 = .ok (.iconst 0, 1) := by decide +kernel
theorem dX5_kindOfLetter_1 : decode cX5_kindOfLetter 1 = .ok (.istore_n 1, 1) := by decide +kernel
theorem dX5_kindOfLetter_2 : decode cX5_kindOfLetter 2 = .ok (.iload_n 1, 1) := by decide +kernel
theorem dX5_kindOfLetter_3 : decode cX5_kindOfLetter 3 = .ok (.getstatic 334, 3) := by decide +kernel
theorem dX5_kindOfLetter_6 : decode cX5_kindOfLetter 6 = .ok (.arraylength, 1) := by decide +kernel
theorem dX5_kindOfLetter_7 : decode cX5_kindOfLetter 7 = .ok (.if_icmp .ge 20, 3) := by decide +kernel
theorem dX5_kindOfLetter_10 : decode cX5_kindOfLetter 10 = .ok (.getstatic 334, 3) := by decide +kernel
theorem dX5_kindOfLetter_13 : decode cX5_kindOfLetter 13 = .ok (.iload_n 1, 1) := by decide +kernel
theorem dX5_kindOfLetter_14 : decode cX5_kindOfLetter 14 = .ok (.iaload, 1) := by decide +kernel
theorem dX5_kindOfLetter_15 : decode cX5_kindOfLetter 15 = .ok (.iload_n 0, 1) := by decide +kernel
theorem dX5_kindOfLetter_16 : decode cX5_kindOfLetter 16 = .ok (.if_icmp .ne 5, 3) := by decide +kernel
theorem dX5_kindOfLetter_19 : decode cX5_kindOfLetter 19 = .ok (.iload_n 1, 1) := by decide +kernel
theorem dX5_kindOfLetter_20 : decode cX5_kindOfLetter 20 = .ok (.ireturn, 1) := by decide +kernel
theorem dX5_kindOfLetter_21 : decode cX5_kindOfLetter 21 = .ok (.iinc 1 1, 3) := by decide +kernel
theorem dX5_kindOfLetter_24 : decode cX5_kindOfLetter 24 = .ok (.goto (-22), 3) := by decide +kernel
theorem dX5_kindOfLetter_27 : decode cX5_kindOfLetter 27 = .ok (.iconst (-1), 1) := by decide +kernel
theorem dX5_kindOfLetter_28 : decode cX5_kindOfLetter 28 = .ok (.ireturn, 1) := by decide +kernel
theorem dX5_readAside_0 : decode cX5_readAside 0 = .ok (.aload_n 0, 1) := by decide +kernel
theorem dX5_readAside_1 : decode cX5_readAside 1 = .ok (.getfield 18, 3) := by decide +kernel
theorem dX5_readAside_4 : decode cX5_readAside 4 = .ok (.iload_n 1, 1) := by decide +kernel
theorem dX5_readAside_5 : decode cX5_readAside 5 = .ok (.invokevirtual 104, 3) := by decide +kernel
theorem dX5_readAside_8 : decode cX5_readAside 8 = .ok (.istore_n 2, 1) := by decide +kernel
theorem dX5_readAside_9 : decode cX5_readAside 9 = .ok (.aload_n 0, 1) := by decide +kernel
theorem dX5_readAside_10 : decode cX5_readAside 10 = .ok (.getfield 37, 3) := by decide +kernel
theorem dX5_readAside_13 : decode cX5_readAside 13 = .ok (.invokevirtual 337, 3) := by decide +kernel
theorem dX5_readAside_16 : decode cX5_readAside 16 = .ok (.iconst 0, 1) := by decide +kernel
theorem dX5_readAside_17 : decode cX5_readAside 17 = .ok (.istore_n 3, 1) := by decide +kernel
theorem dX5_readAside_18 : decode cX5_readAside 18 = .ok (.iload_n 3, 1) := by decide +kernel
theorem dX5_readAside_19 : decode cX5_readAside 19 = .ok (.iload_n 2, 1) := by decide +kernel
theorem dX5_readAside_20 : decode cX5_readAside 20 = .ok (.if_icmp .ge 146, 3) := by decide +kernel
theorem dX5_readAside_23 : decode cX5_readAside 23 = .ok (.aload_n 0, 1) := by decide +kernel
theorem dX5_readAside_24 : decode cX5_readAside 24 = .ok (.getfield 18, 3) := by decide +kernel
theorem dX5_readAside_27 : decode cX5_readAside 27 = .ok (.iload_n 1, 1) := by decide +kernel
theorem dX5_readAside_28 : decode cX5_readAside 28 = .ok (.iload_n 3, 1) := by decide +kernel
theorem dX5_readAside_29 : decode cX5_readAside 29 = .ok (.invokevirtual 82, 3) := by decide +kernel
theorem dX5_readAside_32 : decode cX5_readAside 32 = .ok (.istore 4, 2) := by decide +kernel
theorem dX5_readAside_34 : decode cX5_readAside 34 = .ok (.iload 4, 2) := by decide +kernel
theorem dX5_readAside_36 : decode cX5_readAside 36 = .ok (.bipush 114, 2) := by decide +kernel
theorem dX5_readAside_38 : decode cX5_readAside 38 = .ok (.if_icmp .ne 15, 3) := by decide +kernel
theorem dX5_readAside_41 : decode cX5_readAside 41 = .ok (.aload_n 0, 1) := by decide +kernel
theorem dX5_readAside_42 : decode cX5_readAside 42 = .ok (.getfield 37, 3) := by decide +kernel
theorem dX5_readAside_45 : decode cX5_readAside 45 = .ok (.invokevirtual 338, 3) := by decide +kernel
theorem dX5_readAside_48 : decode cX5_readAside 48 = .ok (.ifCond .ne 5, 3) := by decide +kernel
theorem dX5_readAside_51 : decode cX5_readAside 51 = .ok (.iload_n 3, 1) := by decide +kernel
theorem dX5_readAside_52 : decode cX5_readAside 52 = .ok (.ireturn, 1) := by decide +kernel
theorem dX5_readAside_53 : decode cX5_readAside 53 = .ok (.iload 4, 2) := by decide +kernel
theorem dX5_readAside_55 : decode cX5_readAside 55 = .ok (.bipush 114, 2) := by decide +kernel
theorem dX5_readAside_57 : decode cX5_readAside 57 = .ok (.if_icmp .eq 10, 3) := by decide +kernel
theorem dX5_readAside_60 : decode cX5_readAside 60 = .ok (.iload 4, 2) := by decide +kernel
theorem dX5_readAside_62 : decode cX5_readAside 62 = .ok (.bipush 32, 2) := by decide +kernel
theorem dX5_readAside_64 : decode cX5_readAside 64 = .ok (.if_icmp .ne 9, 3) := by decide +kernel
theorem dX5_readAside_67 : decode cX5_readAside 67 = .ok (.iinc 3 1, 3) := by decide +kernel
theorem dX5_readAside_70 : decode cX5_readAside 70 = .ok (.goto (-52), 3) := by decide +kernel
theorem dX5_readAside_73 : decode cX5_readAside 73 = .ok (.aload_n 0, 1) := by decide +kernel
theorem dX5_readAside_74 : decode cX5_readAside 74 = .ok (.getfield 37, 3) := by decide +kernel
theorem dX5_readAside_77 : decode cX5_readAside 77 = .ok (.invokevirtual 121, 3) := by decide +kernel
theorem dX5_readAside_80 : decode cX5_readAside 80 = .ok (.iconst 1, 1) := by decide +kernel
theorem dX5_readAside_81 : decode cX5_readAside 81 = .ok (.isub, 1) := by decide +kernel
theorem dX5_readAside_82 : decode cX5_readAside 82 = .ok (.istore 5, 2) := by decide +kernel
theorem dX5_readAside_84 : decode cX5_readAside 84 = .ok (.iload 4, 2) := by decide +kernel
theorem dX5_readAside_86 : decode cX5_readAside 86 = .ok (.invokestatic 341, 3) := by decide +kernel
theorem dX5_readAside_89 : decode cX5_readAside 89 = .ok (.istore 6, 2) := by decide +kernel
theorem dX5_readAside_91 : decode cX5_readAside 91 = .ok (.iload 6, 2) := by decide +kernel
theorem dX5_readAside_93 : decode cX5_readAside 93 = .ok (.iconst (-1), 1) := by decide +kernel
theorem dX5_readAside_94 : decode cX5_readAside 94 = .ok (.if_icmp .eq 15, 3) := by decide +kernel
theorem dX5_readAside_97 : decode cX5_readAside 97 = .ok (.aload_n 0, 1) := by decide +kernel
theorem dX5_readAside_98 : decode cX5_readAside 98 = .ok (.getfield 37, 3) := by decide +kernel
theorem dX5_readAside_101 : decode cX5_readAside 101 = .ok (.iload 5, 2) := by decide +kernel
theorem dX5_readAside_103 : decode cX5_readAside 103 = .ok (.invokevirtual 167, 3) := by decide +kernel
theorem dX5_readAside_106 : decode cX5_readAside 106 = .ok (.ifCond .ne 5, 3) := by decide +kernel
theorem dX5_readAside_109 : decode cX5_readAside 109 = .ok (.iload_n 3, 1) := by decide +kernel
theorem dX5_readAside_110 : decode cX5_readAside 110 = .ok (.ireturn, 1) := by decide +kernel
theorem dX5_readAside_111 : decode cX5_readAside 111 = .ok (.aload_n 0, 1) := by decide +kernel
theorem dX5_readAside_112 : decode cX5_readAside 112 = .ok (.getfield 18, 3) := by decide +kernel
theorem dX5_readAside_115 : decode cX5_readAside 115 = .ok (.iload_n 1, 1) := by decide +kernel
theorem dX5_readAside_116 : decode cX5_readAside 116 = .ok (.iload_n 3, 1) := by decide +kernel
theorem dX5_readAside_117 : decode cX5_readAside 117 = .ok (.iconst 1, 1) := by decide +kernel
theorem dX5_readAside_118 : decode cX5_readAside 118 = .ok (.iadd, 1) := by decide +kernel
theorem dX5_readAside_119 : decode cX5_readAside 119 = .ok (.invokevirtual 82, 3) := by decide +kernel
theorem dX5_readAside_122 : decode cX5_readAside 122 = .ok (.bipush 48, 2) := by decide +kernel
theorem dX5_readAside_124 : decode cX5_readAside 124 = .ok (.isub, 1) := by decide +kernel
theorem dX5_readAside_125 : decode cX5_readAside 125 = .ok (.istore 7, 2) := by decide +kernel
theorem dX5_readAside_127 : decode cX5_readAside 127 = .ok (.iload_n 3, 1) := by decide +kernel
theorem dX5_readAside_128 : decode cX5_readAside 128 = .ok (.iconst 1, 1) := by decide +kernel
theorem dX5_readAside_129 : decode cX5_readAside 129 = .ok (.iadd, 1) := by decide +kernel
theorem dX5_readAside_130 : decode cX5_readAside 130 = .ok (.iload_n 2, 1) := by decide +kernel
theorem dX5_readAside_131 : decode cX5_readAside 131 = .ok (.if_icmp .ge 11, 3) := by decide +kernel
theorem dX5_readAside_134 : decode cX5_readAside 134 = .ok (.iload 7, 2) := by decide +kernel
theorem dX5_readAside_136 : decode cX5_readAside 136 = .ok (.invokestatic 157, 3) := by decide +kernel
theorem dX5_readAside_139 : decode cX5_readAside 139 = .ok (.ifCond .ne 7, 3) := by decide +kernel
theorem dX5_readAside_142 : decode cX5_readAside 142 = .ok (.iload_n 3, 1) := by decide +kernel
theorem dX5_readAside_143 : decode cX5_readAside 143 = .ok (.iconst 1, 1) := by decide +kernel
theorem dX5_readAside_144 : decode cX5_readAside 144 = .ok (.iadd, 1) := by decide +kernel
theorem dX5_readAside_145 : decode cX5_readAside 145 = .ok (.ireturn, 1) := by decide +kernel
theorem dX5_readAside_146 : decode cX5_readAside 146 = .ok (.aload_n 0, 1) := by decide +kernel
theorem dX5_readAside_147 : decode cX5_readAside 147 = .ok (.getfield 37, 3) := by decide +kernel
theorem dX5_readAside_150 : decode cX5_readAside 150 = .ok (.iload 5, 2) := by decide +kernel
theorem dX5_readAside_152 : decode cX5_readAside 152 = .ok (.iload 6, 2) := by decide +kernel
theorem dX5_readAside_154 : decode cX5_readAside 154 = .ok (.iload 7, 2) := by decide +kernel
theorem dX5_readAside_156 : decode cX5_readAside 156 = .ok (.invokevirtual 176, 3) := by decide +kernel
theorem dX5_readAside_159 : decode cX5_readAside 159 = .ok (.pop, 1) := by decide +kernel
theorem dX5_readAside_160 : decode cX5_readAside 160 = .ok (.iinc 3 2, 3) := by decide +kernel
theorem dX5_readAside_163 : decode cX5_readAside 163 = .ok (.goto (-145), 3) := by decide +kernel
theorem dX5_readAside_166 : decode cX5_readAside 166 = .ok (.aload_n 0, 1) := by decide +kernel
theorem dX5_readAside_167 : decode cX5_readAside 167 = .ok (.getfield 37, 3) := by decide +kernel
theorem dX5_readAside_170 : decode cX5_readAside 170 = .ok (.invokevirtual 121, 3) := by decide +kernel
theorem dX5_readAside_173 : decode cX5_readAside 173 = .ok (.ifCond .ne 7, 3) := by decide +kernel
theorem dX5_readAside_176 : decode cX5_readAside 176 = .ok (.iload_n 2, 1) := by decide +kernel
theorem dX5_readAside_177 : decode cX5_readAside 177 = .ok (.goto 5, 3) := by decide +kernel
theorem dX5_readAside_180 : decode cX5_readAside 180 = .ok (.bipush (-9), 2) := by decide +kernel
theorem dX5_readAside_182 : decode cX5_readAside 182 = .ok (.ireturn, 1) := by decide +kernel
theorem dX5_toldOf_0 : decode cX5_toldOf 0 = .ok (.aload_n 0, 1) := by decide +kernel
theorem dX5_toldOf_1 : decode cX5_toldOf 1 = .ok (.getfield 26, 3) := by decide +kernel
theorem dX5_toldOf_4 : decode cX5_toldOf 4 = .ok (.getfield 125, 3) := by decide +kernel
theorem dX5_toldOf_7 : decode cX5_toldOf 7 = .ok (.iload_n 1, 1) := by decide +kernel
theorem dX5_toldOf_8 : decode cX5_toldOf 8 = .ok (.iload_n 2, 1) := by decide +kernel
theorem dX5_toldOf_9 : decode cX5_toldOf 9 = .ok (.invokevirtual 232, 3) := by decide +kernel
theorem dX5_toldOf_12 : decode cX5_toldOf 12 = .ok (.istore 4, 2) := by decide +kernel
theorem dX5_toldOf_14 : decode cX5_toldOf 14 = .ok (.iload_n 3, 1) := by decide +kernel
theorem dX5_toldOf_15 : decode cX5_toldOf 15 = .ok (.tableswitch 99 0 5 #[37, 40, 53, 66, 79, 89], 37) := by decide +kernel
theorem dX5_toldOf_52 : decode cX5_toldOf 52 = .ok (.iload 4, 2) := by decide +kernel
theorem dX5_toldOf_54 : decode cX5_toldOf 54 = .ok (.ireturn, 1) := by decide +kernel
theorem dX5_toldOf_55 : decode cX5_toldOf 55 = .ok (.aload_n 0, 1) := by decide +kernel
theorem dX5_toldOf_56 : decode cX5_toldOf 56 = .ok (.getfield 26, 3) := by decide +kernel
theorem dX5_toldOf_59 : decode cX5_toldOf 59 = .ok (.getfield 125, 3) := by decide +kernel
theorem dX5_toldOf_62 : decode cX5_toldOf 62 = .ok (.iload_n 1, 1) := by decide +kernel
theorem dX5_toldOf_63 : decode cX5_toldOf 63 = .ok (.iload_n 2, 1) := by decide +kernel
theorem dX5_toldOf_64 : decode cX5_toldOf 64 = .ok (.invokevirtual 148, 3) := by decide +kernel
theorem dX5_toldOf_67 : decode cX5_toldOf 67 = .ok (.ireturn, 1) := by decide +kernel
theorem dX5_toldOf_68 : decode cX5_toldOf 68 = .ok (.aload_n 0, 1) := by decide +kernel
theorem dX5_toldOf_69 : decode cX5_toldOf 69 = .ok (.getfield 26, 3) := by decide +kernel
theorem dX5_toldOf_72 : decode cX5_toldOf 72 = .ok (.getfield 125, 3) := by decide +kernel
theorem dX5_toldOf_75 : decode cX5_toldOf 75 = .ok (.iload_n 1, 1) := by decide +kernel
theorem dX5_toldOf_76 : decode cX5_toldOf 76 = .ok (.iload_n 2, 1) := by decide +kernel
theorem dX5_toldOf_77 : decode cX5_toldOf 77 = .ok (.invokevirtual 160, 3) := by decide +kernel
theorem dX5_toldOf_80 : decode cX5_toldOf 80 = .ok (.ireturn, 1) := by decide +kernel
theorem dX5_toldOf_81 : decode cX5_toldOf 81 = .ok (.aload_n 0, 1) := by decide +kernel
theorem dX5_toldOf_82 : decode cX5_toldOf 82 = .ok (.getfield 26, 3) := by decide +kernel
theorem dX5_toldOf_85 : decode cX5_toldOf 85 = .ok (.getfield 125, 3) := by decide +kernel
theorem dX5_toldOf_88 : decode cX5_toldOf 88 = .ok (.iload_n 1, 1) := by decide +kernel
theorem dX5_toldOf_89 : decode cX5_toldOf 89 = .ok (.iload_n 2, 1) := by decide +kernel
theorem dX5_toldOf_90 : decode cX5_toldOf 90 = .ok (.invokevirtual 344, 3) := by decide +kernel
theorem dX5_toldOf_93 : decode cX5_toldOf 93 = .ok (.ireturn, 1) := by decide +kernel
theorem dX5_toldOf_94 : decode cX5_toldOf 94 = .ok (.aload_n 0, 1) := by decide +kernel
theorem dX5_toldOf_95 : decode cX5_toldOf 95 = .ok (.getfield 44, 3) := by decide +kernel
theorem dX5_toldOf_98 : decode cX5_toldOf 98 = .ok (.iload 4, 2) := by decide +kernel
theorem dX5_toldOf_100 : decode cX5_toldOf 100 = .ok (.invokevirtual 256, 3) := by decide +kernel
theorem dX5_toldOf_103 : decode cX5_toldOf 103 = .ok (.ireturn, 1) := by decide +kernel
theorem dX5_toldOf_104 : decode cX5_toldOf 104 = .ok (.aload_n 0, 1) := by decide +kernel
theorem dX5_toldOf_105 : decode cX5_toldOf 105 = .ok (.getfield 44, 3) := by decide +kernel
theorem dX5_toldOf_108 : decode cX5_toldOf 108 = .ok (.iload 4, 2) := by decide +kernel
theorem dX5_toldOf_110 : decode cX5_toldOf 110 = .ok (.invokevirtual 226, 3) := by decide +kernel
theorem dX5_toldOf_113 : decode cX5_toldOf 113 = .ok (.ireturn, 1) := by decide +kernel
theorem dX5_toldOf_114 : decode cX5_toldOf 114 = .ok (.aload_n 0, 1) := by decide +kernel
theorem dX5_toldOf_115 : decode cX5_toldOf 115 = .ok (.getfield 44, 3) := by decide +kernel
theorem dX5_toldOf_118 : decode cX5_toldOf 118 = .ok (.iload 4, 2) := by decide +kernel
theorem dX5_toldOf_120 : decode cX5_toldOf 120 = .ok (.invokevirtual 347, 3) := by decide +kernel
theorem dX5_toldOf_123 : decode cX5_toldOf 123 = .ok (.ireturn, 1) := by decide +kernel
theorem dX5_markOf_0 : decode cX5_markOf 0 = .ok (.iload_n 3, 1) := by decide +kernel
theorem dX5_markOf_1 : decode cX5_markOf 1 = .ok (.tableswitch 108 1 4 #[31, 38, 58, 92], 31) := by decide +kernel
theorem dX5_markOf_32 : decode cX5_markOf 32 = .ok (.aload_n 0, 1) := by decide +kernel
theorem dX5_markOf_33 : decode cX5_markOf 33 = .ok (.iload_n 1, 1) := by decide +kernel
theorem dX5_markOf_34 : decode cX5_markOf 34 = .ok (.iload_n 2, 1) := by decide +kernel
theorem dX5_markOf_35 : decode cX5_markOf 35 = .ok (.invokevirtual 350, 3) := by decide +kernel
theorem dX5_markOf_38 : decode cX5_markOf 38 = .ok (.ireturn, 1) := by decide +kernel
theorem dX5_markOf_39 : decode cX5_markOf 39 = .ok (.aload_n 0, 1) := by decide +kernel
theorem dX5_markOf_40 : decode cX5_markOf 40 = .ok (.getfield 26, 3) := by decide +kernel
theorem dX5_markOf_43 : decode cX5_markOf 43 = .ok (.getfield 125, 3) := by decide +kernel
theorem dX5_markOf_46 : decode cX5_markOf 46 = .ok (.iload_n 1, 1) := by decide +kernel
theorem dX5_markOf_47 : decode cX5_markOf 47 = .ok (.iconst 1, 1) := by decide +kernel
theorem dX5_markOf_48 : decode cX5_markOf 48 = .ok (.iadd, 1) := by decide +kernel
theorem dX5_markOf_49 : decode cX5_markOf 49 = .ok (.invokevirtual 131, 3) := by decide +kernel
theorem dX5_markOf_52 : decode cX5_markOf 52 = .ok (.iload_n 2, 1) := by decide +kernel
theorem dX5_markOf_53 : decode cX5_markOf 53 = .ok (.iconst 1, 1) := by decide +kernel
theorem dX5_markOf_54 : decode cX5_markOf 54 = .ok (.iadd, 1) := by decide +kernel
theorem dX5_markOf_55 : decode cX5_markOf 55 = .ok (.invokestatic 353, 3) := by decide +kernel
theorem dX5_markOf_58 : decode cX5_markOf 58 = .ok (.ireturn, 1) := by decide +kernel
theorem dX5_markOf_59 : decode cX5_markOf 59 = .ok (.aload_n 0, 1) := by decide +kernel
theorem dX5_markOf_60 : decode cX5_markOf 60 = .ok (.getfield 44, 3) := by decide +kernel
theorem dX5_markOf_63 : decode cX5_markOf 63 = .ok (.aload_n 0, 1) := by decide +kernel
theorem dX5_markOf_64 : decode cX5_markOf 64 = .ok (.getfield 26, 3) := by decide +kernel
theorem dX5_markOf_67 : decode cX5_markOf 67 = .ok (.getfield 125, 3) := by decide +kernel
theorem dX5_markOf_70 : decode cX5_markOf 70 = .ok (.invokevirtual 138, 3) := by decide +kernel
theorem dX5_markOf_73 : decode cX5_markOf 73 = .ok (.aload_n 0, 1) := by decide +kernel
theorem dX5_markOf_74 : decode cX5_markOf 74 = .ok (.getfield 44, 3) := by decide +kernel
theorem dX5_markOf_77 : decode cX5_markOf 77 = .ok (.aload_n 0, 1) := by decide +kernel
theorem dX5_markOf_78 : decode cX5_markOf 78 = .ok (.getfield 26, 3) := by decide +kernel
theorem dX5_markOf_81 : decode cX5_markOf 81 = .ok (.getfield 125, 3) := by decide +kernel
theorem dX5_markOf_84 : decode cX5_markOf 84 = .ok (.iload_n 1, 1) := by decide +kernel
theorem dX5_markOf_85 : decode cX5_markOf 85 = .ok (.iload_n 2, 1) := by decide +kernel
theorem dX5_markOf_86 : decode cX5_markOf 86 = .ok (.invokevirtual 232, 3) := by decide +kernel
theorem dX5_markOf_89 : decode cX5_markOf 89 = .ok (.invokevirtual 347, 3) := by decide +kernel
theorem dX5_markOf_92 : decode cX5_markOf 92 = .ok (.ireturn, 1) := by decide +kernel
theorem dX5_markOf_93 : decode cX5_markOf 93 = .ok (.aload_n 0, 1) := by decide +kernel
theorem dX5_markOf_94 : decode cX5_markOf 94 = .ok (.getfield 26, 3) := by decide +kernel
theorem dX5_markOf_97 : decode cX5_markOf 97 = .ok (.getfield 125, 3) := by decide +kernel
theorem dX5_markOf_100 : decode cX5_markOf 100 = .ok (.iload_n 1, 1) := by decide +kernel
theorem dX5_markOf_101 : decode cX5_markOf 101 = .ok (.invokevirtual 131, 3) := by decide +kernel
theorem dX5_markOf_104 : decode cX5_markOf 104 = .ok (.iconst 1, 1) := by decide +kernel
theorem dX5_markOf_105 : decode cX5_markOf 105 = .ok (.isub, 1) := by decide +kernel
theorem dX5_markOf_106 : decode cX5_markOf 106 = .ok (.iload_n 2, 1) := by decide +kernel
theorem dX5_markOf_107 : decode cX5_markOf 107 = .ok (.isub, 1) := by decide +kernel
theorem dX5_markOf_108 : decode cX5_markOf 108 = .ok (.ireturn, 1) := by decide +kernel
theorem dX5_markOf_109 : decode cX5_markOf 109 = .ok (.aload_n 0, 1) := by decide +kernel
theorem dX5_markOf_110 : decode cX5_markOf 110 = .ok (.iload_n 1, 1) := by decide +kernel
theorem dX5_markOf_111 : decode cX5_markOf 111 = .ok (.iload_n 2, 1) := by decide +kernel
theorem dX5_markOf_112 : decode cX5_markOf 112 = .ok (.invokevirtual 358, 3) := by decide +kernel
theorem dX5_markOf_115 : decode cX5_markOf 115 = .ok (.ireturn, 1) := by decide +kernel
theorem dX5_hoursTakenIfHouse_0 : decode cX5_hoursTakenIfHouse 0 = .ok (.aload_n 0, 1) := by decide +kernel
theorem dX5_hoursTakenIfHouse_1 : decode cX5_hoursTakenIfHouse 1 = .ok (.getfield 26, 3) := by decide +kernel
theorem dX5_hoursTakenIfHouse_4 : decode cX5_hoursTakenIfHouse 4 = .ok (.getfield 125, 3) := by decide +kernel
theorem dX5_hoursTakenIfHouse_7 : decode cX5_hoursTakenIfHouse 7 = .ok (.invokestatic 361, 3) := by decide +kernel
theorem dX5_hoursTakenIfHouse_10 : decode cX5_hoursTakenIfHouse 10 = .ok (.istore_n 3, 1) := by decide +kernel
theorem dX5_hoursTakenIfHouse_11 : decode cX5_hoursTakenIfHouse 11 = .ok (.aload_n 0, 1) := by decide +kernel
theorem dX5_hoursTakenIfHouse_12 : decode cX5_hoursTakenIfHouse 12 = .ok (.getfield 37, 3) := by decide +kernel
theorem dX5_hoursTakenIfHouse_15 : decode cX5_hoursTakenIfHouse 15 = .ok (.aload_n 0, 1) := by decide +kernel
theorem dX5_hoursTakenIfHouse_16 : decode cX5_hoursTakenIfHouse 16 = .ok (.getfield 26, 3) := by decide +kernel
theorem dX5_hoursTakenIfHouse_19 : decode cX5_hoursTakenIfHouse 19 = .ok (.getfield 125, 3) := by decide +kernel
theorem dX5_hoursTakenIfHouse_22 : decode cX5_hoursTakenIfHouse 22 = .ok (.invokevirtual 235, 3) := by decide +kernel
theorem dX5_hoursTakenIfHouse_25 : decode cX5_hoursTakenIfHouse 25 = .ok (.aload_n 0, 1) := by decide +kernel
theorem dX5_hoursTakenIfHouse_26 : decode cX5_hoursTakenIfHouse 26 = .ok (.getfield 37, 3) := by decide +kernel
theorem dX5_hoursTakenIfHouse_29 : decode cX5_hoursTakenIfHouse 29 = .ok (.iload_n 1, 1) := by decide +kernel
theorem dX5_hoursTakenIfHouse_30 : decode cX5_hoursTakenIfHouse 30 = .ok (.iload_n 2, 1) := by decide +kernel
theorem dX5_hoursTakenIfHouse_31 : decode cX5_hoursTakenIfHouse 31 = .ok (.iconst 0, 1) := by decide +kernel
theorem dX5_hoursTakenIfHouse_32 : decode cX5_hoursTakenIfHouse 32 = .ok (.aload_n 0, 1) := by decide +kernel
theorem dX5_hoursTakenIfHouse_33 : decode cX5_hoursTakenIfHouse 33 = .ok (.getfield 37, 3) := by decide +kernel
theorem dX5_hoursTakenIfHouse_36 : decode cX5_hoursTakenIfHouse 36 = .ok (.iload_n 1, 1) := by decide +kernel
theorem dX5_hoursTakenIfHouse_37 : decode cX5_hoursTakenIfHouse 37 = .ok (.iload_n 2, 1) := by decide +kernel
theorem dX5_hoursTakenIfHouse_38 : decode cX5_hoursTakenIfHouse 38 = .ok (.invokevirtual 160, 3) := by decide +kernel
theorem dX5_hoursTakenIfHouse_41 : decode cX5_hoursTakenIfHouse 41 = .ok (.invokevirtual 163, 3) := by decide +kernel
theorem dX5_hoursTakenIfHouse_44 : decode cX5_hoursTakenIfHouse 44 = .ok (.iload_n 3, 1) := by decide +kernel
theorem dX5_hoursTakenIfHouse_45 : decode cX5_hoursTakenIfHouse 45 = .ok (.aload_n 0, 1) := by decide +kernel
theorem dX5_hoursTakenIfHouse_46 : decode cX5_hoursTakenIfHouse 46 = .ok (.getfield 37, 3) := by decide +kernel
theorem dX5_hoursTakenIfHouse_49 : decode cX5_hoursTakenIfHouse 49 = .ok (.invokestatic 361, 3) := by decide +kernel
theorem dX5_hoursTakenIfHouse_52 : decode cX5_hoursTakenIfHouse 52 = .ok (.isub, 1) := by decide +kernel
theorem dX5_hoursTakenIfHouse_53 : decode cX5_hoursTakenIfHouse 53 = .ok (.ireturn, 1) := by decide +kernel
theorem dX5_hoursSeenInAll_0 : decode cX5_hoursSeenInAll 0 = .ok (.iconst 0, 1) := by decide +kernel
theorem dX5_hoursSeenInAll_1 : decode cX5_hoursSeenInAll 1 = .ok (.istore_n 1, 1) := by decide +kernel
theorem dX5_hoursSeenInAll_2 : decode cX5_hoursSeenInAll 2 = .ok (.iconst 0, 1) := by decide +kernel
theorem dX5_hoursSeenInAll_3 : decode cX5_hoursSeenInAll 3 = .ok (.istore_n 2, 1) := by decide +kernel
theorem dX5_hoursSeenInAll_4 : decode cX5_hoursSeenInAll 4 = .ok (.iload_n 2, 1) := by decide +kernel
theorem dX5_hoursSeenInAll_5 : decode cX5_hoursSeenInAll 5 = .ok (.aload_n 0, 1) := by decide +kernel
theorem dX5_hoursSeenInAll_6 : decode cX5_hoursSeenInAll 6 = .ok (.invokevirtual 121, 3) := by decide +kernel
theorem dX5_hoursSeenInAll_9 : decode cX5_hoursSeenInAll 9 = .ok (.if_icmp .ge 38, 3) := by decide +kernel
theorem dX5_hoursSeenInAll_12 : decode cX5_hoursSeenInAll 12 = .ok (.iconst 0, 1) := by decide +kernel
theorem dX5_hoursSeenInAll_13 : decode cX5_hoursSeenInAll 13 = .ok (.istore_n 3, 1) := by decide +kernel
theorem dX5_hoursSeenInAll_14 : decode cX5_hoursSeenInAll 14 = .ok (.iload_n 3, 1) := by decide +kernel
theorem dX5_hoursSeenInAll_15 : decode cX5_hoursSeenInAll 15 = .ok (.aload_n 0, 1) := by decide +kernel
theorem dX5_hoursSeenInAll_16 : decode cX5_hoursSeenInAll 16 = .ok (.iload_n 2, 1) := by decide +kernel
theorem dX5_hoursSeenInAll_17 : decode cX5_hoursSeenInAll 17 = .ok (.invokevirtual 131, 3) := by decide +kernel
theorem dX5_hoursSeenInAll_20 : decode cX5_hoursSeenInAll 20 = .ok (.if_icmp .ge 21, 3) := by decide +kernel
theorem dX5_hoursSeenInAll_23 : decode cX5_hoursSeenInAll 23 = .ok (.iload_n 1, 1) := by decide +kernel
theorem dX5_hoursSeenInAll_24 : decode cX5_hoursSeenInAll 24 = .ok (.aload_n 0, 1) := by decide +kernel
theorem dX5_hoursSeenInAll_25 : decode cX5_hoursSeenInAll 25 = .ok (.iload_n 2, 1) := by decide +kernel
theorem dX5_hoursSeenInAll_26 : decode cX5_hoursSeenInAll 26 = .ok (.iload_n 3, 1) := by decide +kernel
theorem dX5_hoursSeenInAll_27 : decode cX5_hoursSeenInAll 27 = .ok (.invokevirtual 205, 3) := by decide +kernel
theorem dX5_hoursSeenInAll_30 : decode cX5_hoursSeenInAll 30 = .ok (.invokestatic 244, 3) := by decide +kernel
theorem dX5_hoursSeenInAll_33 : decode cX5_hoursSeenInAll 33 = .ok (.iadd, 1) := by decide +kernel
theorem dX5_hoursSeenInAll_34 : decode cX5_hoursSeenInAll 34 = .ok (.istore_n 1, 1) := by decide +kernel
theorem dX5_hoursSeenInAll_35 : decode cX5_hoursSeenInAll 35 = .ok (.iinc 3 1, 3) := by decide +kernel
theorem dX5_hoursSeenInAll_38 : decode cX5_hoursSeenInAll 38 = .ok (.goto (-24), 3) := by decide +kernel
theorem dX5_hoursSeenInAll_41 : decode cX5_hoursSeenInAll 41 = .ok (.iinc 2 1, 3) := by decide +kernel
theorem dX5_hoursSeenInAll_44 : decode cX5_hoursSeenInAll 44 = .ok (.goto (-40), 3) := by decide +kernel
theorem dX5_hoursSeenInAll_47 : decode cX5_hoursSeenInAll 47 = .ok (.iload_n 1, 1) := by decide +kernel
theorem dX5_hoursSeenInAll_48 : decode cX5_hoursSeenInAll 48 = .ok (.ireturn, 1) := by decide +kernel
theorem dX5_lightenedBelow_0 : decode cX5_lightenedBelow 0 = .ok (.iconst 0, 1) := by decide +kernel
theorem dX5_lightenedBelow_1 : decode cX5_lightenedBelow 1 = .ok (.istore_n 3, 1) := by decide +kernel
theorem dX5_lightenedBelow_2 : decode cX5_lightenedBelow 2 = .ok (.iconst 0, 1) := by decide +kernel
theorem dX5_lightenedBelow_3 : decode cX5_lightenedBelow 3 = .ok (.istore 4, 2) := by decide +kernel
theorem dX5_lightenedBelow_5 : decode cX5_lightenedBelow 5 = .ok (.iload 4, 2) := by decide +kernel
theorem dX5_lightenedBelow_7 : decode cX5_lightenedBelow 7 = .ok (.iload_n 2, 1) := by decide +kernel
theorem dX5_lightenedBelow_8 : decode cX5_lightenedBelow 8 = .ok (.if_icmp .ge 50, 3) := by decide +kernel
theorem dX5_lightenedBelow_11 : decode cX5_lightenedBelow 11 = .ok (.aload_n 0, 1) := by decide +kernel
theorem dX5_lightenedBelow_12 : decode cX5_lightenedBelow 12 = .ok (.getfield 26, 3) := by decide +kernel
theorem dX5_lightenedBelow_15 : decode cX5_lightenedBelow 15 = .ok (.getfield 125, 3) := by decide +kernel
theorem dX5_lightenedBelow_18 : decode cX5_lightenedBelow 18 = .ok (.iload_n 1, 1) := by decide +kernel
theorem dX5_lightenedBelow_19 : decode cX5_lightenedBelow 19 = .ok (.iload 4, 2) := by decide +kernel
theorem dX5_lightenedBelow_21 : decode cX5_lightenedBelow 21 = .ok (.invokevirtual 205, 3) := by decide +kernel
theorem dX5_lightenedBelow_24 : decode cX5_lightenedBelow 24 = .ok (.invokestatic 244, 3) := by decide +kernel
theorem dX5_lightenedBelow_27 : decode cX5_lightenedBelow 27 = .ok (.istore 5, 2) := by decide +kernel
theorem dX5_lightenedBelow_29 : decode cX5_lightenedBelow 29 = .ok (.iload 5, 2) := by decide +kernel
theorem dX5_lightenedBelow_31 : decode cX5_lightenedBelow 31 = .ok (.aload_n 0, 1) := by decide +kernel
theorem dX5_lightenedBelow_32 : decode cX5_lightenedBelow 32 = .ok (.getfield 26, 3) := by decide +kernel
theorem dX5_lightenedBelow_35 : decode cX5_lightenedBelow 35 = .ok (.getfield 125, 3) := by decide +kernel
theorem dX5_lightenedBelow_38 : decode cX5_lightenedBelow 38 = .ok (.iload_n 1, 1) := by decide +kernel
theorem dX5_lightenedBelow_39 : decode cX5_lightenedBelow 39 = .ok (.iload 4, 2) := by decide +kernel
theorem dX5_lightenedBelow_41 : decode cX5_lightenedBelow 41 = .ok (.invokevirtual 202, 3) := by decide +kernel
theorem dX5_lightenedBelow_44 : decode cX5_lightenedBelow 44 = .ok (.iadd, 1) := by decide +kernel
theorem dX5_lightenedBelow_45 : decode cX5_lightenedBelow 45 = .ok (.iconst 5, 1) := by decide +kernel
theorem dX5_lightenedBelow_46 : decode cX5_lightenedBelow 46 = .ok (.if_icmp .gt 6, 3) := by decide +kernel
theorem dX5_lightenedBelow_49 : decode cX5_lightenedBelow 49 = .ok (.iinc 3 1, 3) := by decide +kernel
theorem dX5_lightenedBelow_52 : decode cX5_lightenedBelow 52 = .ok (.iinc 4 1, 3) := by decide +kernel
theorem dX5_lightenedBelow_55 : decode cX5_lightenedBelow 55 = .ok (.goto (-50), 3) := by decide +kernel
theorem dX5_lightenedBelow_58 : decode cX5_lightenedBelow 58 = .ok (.iload_n 3, 1) := by decide +kernel
theorem dX5_lightenedBelow_59 : decode cX5_lightenedBelow 59 = .ok (.ireturn, 1) := by decide +kernel
theorem dX5_keptAt_0 : decode cX5_keptAt 0 = .ok (.iload_n 1, 1) := by decide +kernel
theorem dX5_keptAt_1 : decode cX5_keptAt 1 = .ok (.ifCond .lt 21, 3) := by decide +kernel
theorem dX5_keptAt_4 : decode cX5_keptAt 4 = .ok (.iload_n 1, 1) := by decide +kernel
theorem dX5_keptAt_5 : decode cX5_keptAt 5 = .ok (.aload_n 0, 1) := by decide +kernel
theorem dX5_keptAt_6 : decode cX5_keptAt 6 = .ok (.getfield 30, 3) := by decide +kernel
theorem dX5_keptAt_9 : decode cX5_keptAt 9 = .ok (.arraylength, 1) := by decide +kernel
theorem dX5_keptAt_10 : decode cX5_keptAt 10 = .ok (.if_icmp .ge 12, 3) := by decide +kernel
theorem dX5_keptAt_13 : decode cX5_keptAt 13 = .ok (.aload_n 0, 1) := by decide +kernel
theorem dX5_keptAt_14 : decode cX5_keptAt 14 = .ok (.getfield 30, 3) := by decide +kernel
theorem dX5_keptAt_17 : decode cX5_keptAt 17 = .ok (.iload_n 1, 1) := by decide +kernel
theorem dX5_keptAt_18 : decode cX5_keptAt 18 = .ok (.aaload, 1) := by decide +kernel
theorem dX5_keptAt_19 : decode cX5_keptAt 19 = .ok (.goto 4, 3) := by decide +kernel
theorem dX5_keptAt_22 : decode cX5_keptAt 22 = .ok (.aconst_null, 1) := by decide +kernel
theorem dX5_keptAt_23 : decode cX5_keptAt 23 = .ok (.areturn, 1) := by decide +kernel
theorem dX5_deedsKeptIn_0 : decode cX5_deedsKeptIn 0 = .ok (.aload_n 0, 1) := by decide +kernel
theorem dX5_deedsKeptIn_1 : decode cX5_deedsKeptIn 1 = .ok (.iload_n 1, 1) := by decide +kernel
theorem dX5_deedsKeptIn_2 : decode cX5_deedsKeptIn 2 = .ok (.invokevirtual 188, 3) := by decide +kernel
theorem dX5_deedsKeptIn_5 : decode cX5_deedsKeptIn 5 = .ok (.astore_n 2, 1) := by decide +kernel
theorem dX5_deedsKeptIn_6 : decode cX5_deedsKeptIn 6 = .ok (.aload_n 2, 1) := by decide +kernel
theorem dX5_deedsKeptIn_7 : decode cX5_deedsKeptIn 7 = .ok (.ifnonnull 7, 3) := by decide +kernel
theorem dX5_deedsKeptIn_10 : decode cX5_deedsKeptIn 10 = .ok (.iconst (-1), 1) := by decide +kernel
theorem dX5_deedsKeptIn_11 : decode cX5_deedsKeptIn 11 = .ok (.goto 7, 3) := by decide +kernel
theorem dX5_deedsKeptIn_14 : decode cX5_deedsKeptIn 14 = .ok (.aload_n 2, 1) := by decide +kernel
theorem dX5_deedsKeptIn_15 : decode cX5_deedsKeptIn 15 = .ok (.getfield 182, 3) := by decide +kernel
theorem dX5_deedsKeptIn_18 : decode cX5_deedsKeptIn 18 = .ok (.ireturn, 1) := by decide +kernel
theorem dX5_keptCount_0 : decode cX5_keptCount 0 = .ok (.iconst 0, 1) := by decide +kernel
theorem dX5_keptCount_1 : decode cX5_keptCount 1 = .ok (.istore_n 1, 1) := by decide +kernel
theorem dX5_keptCount_2 : decode cX5_keptCount 2 = .ok (.iconst 0, 1) := by decide +kernel
theorem dX5_keptCount_3 : decode cX5_keptCount 3 = .ok (.istore_n 2, 1) := by decide +kernel
theorem dX5_keptCount_4 : decode cX5_keptCount 4 = .ok (.iload_n 2, 1) := by decide +kernel
theorem dX5_keptCount_5 : decode cX5_keptCount 5 = .ok (.iconst 3, 1) := by decide +kernel
theorem dX5_keptCount_6 : decode cX5_keptCount 6 = .ok (.if_icmp .ge 21, 3) := by decide +kernel
theorem dX5_keptCount_9 : decode cX5_keptCount 9 = .ok (.aload_n 0, 1) := by decide +kernel
theorem dX5_keptCount_10 : decode cX5_keptCount 10 = .ok (.iload_n 2, 1) := by decide +kernel
theorem dX5_keptCount_11 : decode cX5_keptCount 11 = .ok (.invokevirtual 328, 3) := by decide +kernel
theorem dX5_keptCount_14 : decode cX5_keptCount 14 = .ok (.iconst (-1), 1) := by decide +kernel
theorem dX5_keptCount_15 : decode cX5_keptCount 15 = .ok (.if_icmp .eq 6, 3) := by decide +kernel
theorem dX5_keptCount_18 : decode cX5_keptCount 18 = .ok (.iinc 1 1, 3) := by decide +kernel
theorem dX5_keptCount_21 : decode cX5_keptCount 21 = .ok (.iinc 2 1, 3) := by decide +kernel
theorem dX5_keptCount_24 : decode cX5_keptCount 24 = .ok (.goto (-20), 3) := by decide +kernel
theorem dX5_keptCount_27 : decode cX5_keptCount 27 = .ok (.iload_n 1, 1) := by decide +kernel
theorem dX5_keptCount_28 : decode cX5_keptCount 28 = .ok (.ireturn, 1) := by decide +kernel
theorem dX5_forgetKept_0 : decode cX5_forgetKept 0 = .ok (.iconst 0, 1) := by decide +kernel
theorem dX5_forgetKept_1 : decode cX5_forgetKept 1 = .ok (.istore_n 1, 1) := by decide +kernel
theorem dX5_forgetKept_2 : decode cX5_forgetKept 2 = .ok (.iload_n 1, 1) := by decide +kernel
theorem dX5_forgetKept_3 : decode cX5_forgetKept 3 = .ok (.iconst 3, 1) := by decide +kernel
theorem dX5_forgetKept_4 : decode cX5_forgetKept 4 = .ok (.if_icmp .ge 23, 3) := by decide +kernel
theorem dX5_forgetKept_7 : decode cX5_forgetKept 7 = .ok (.aload_n 0, 1) := by decide +kernel
theorem dX5_forgetKept_8 : decode cX5_forgetKept 8 = .ok (.iload_n 1, 1) := by decide +kernel
theorem dX5_forgetKept_9 : decode cX5_forgetKept 9 = .ok (.invokevirtual 188, 3) := by decide +kernel
theorem dX5_forgetKept_12 : decode cX5_forgetKept 12 = .ok (.astore_n 2, 1) := by decide +kernel
theorem dX5_forgetKept_13 : decode cX5_forgetKept 13 = .ok (.aload_n 2, 1) := by decide +kernel
theorem dX5_forgetKept_14 : decode cX5_forgetKept 14 = .ok (.ifnull 7, 3) := by decide +kernel
theorem dX5_forgetKept_17 : decode cX5_forgetKept 17 = .ok (.aload_n 2, 1) := by decide +kernel
theorem dX5_forgetKept_18 : decode cX5_forgetKept 18 = .ok (.invokevirtual 364, 3) := by decide +kernel
theorem dX5_forgetKept_21 : decode cX5_forgetKept 21 = .ok (.iinc 1 1, 3) := by decide +kernel
theorem dX5_forgetKept_24 : decode cX5_forgetKept 24 = .ok (.goto (-22), 3) := by decide +kernel
theorem dX5_forgetKept_27 : decode cX5_forgetKept 27 = .ok (.return_, 1) := by decide +kernel
theorem dX5_lampsWhereSteady_0 : decode cX5_lampsWhereSteady 0 = .ok (.aload_n 1, 1) := by decide +kernel
theorem dX5_lampsWhereSteady_1 : decode cX5_lampsWhereSteady 1 = .ok (.invokevirtual 253, 3) := by decide +kernel
theorem dX5_lampsWhereSteady_4 : decode cX5_lampsWhereSteady 4 = .ok (.ifCond .ne 6, 3) := by decide +kernel
theorem dX5_lampsWhereSteady_7 : decode cX5_lampsWhereSteady 7 = .ok (.bipush (-9), 2) := by decide +kernel
theorem dX5_lampsWhereSteady_9 : decode cX5_lampsWhereSteady 9 = .ok (.ireturn, 1) := by decide +kernel
theorem dX5_lampsWhereSteady_10 : decode cX5_lampsWhereSteady 10 = .ok (.aload_n 0, 1) := by decide +kernel
theorem dX5_lampsWhereSteady_11 : decode cX5_lampsWhereSteady 11 = .ok (.getfield 44, 3) := by decide +kernel
theorem dX5_lampsWhereSteady_14 : decode cX5_lampsWhereSteady 14 = .ok (.aload_n 1, 1) := by decide +kernel
theorem dX5_lampsWhereSteady_15 : decode cX5_lampsWhereSteady 15 = .ok (.invokevirtual 138, 3) := by decide +kernel
theorem dX5_lampsWhereSteady_18 : decode cX5_lampsWhereSteady 18 = .ok (.aload_n 0, 1) := by decide +kernel
theorem dX5_lampsWhereSteady_19 : decode cX5_lampsWhereSteady 19 = .ok (.getfield 44, 3) := by decide +kernel
theorem dX5_lampsWhereSteady_22 : decode cX5_lampsWhereSteady 22 = .ok (.getfield 217, 3) := by decide +kernel
theorem dX5_lampsWhereSteady_25 : decode cX5_lampsWhereSteady 25 = .ok (.ireturn, 1) := by decide +kernel
theorem dX5_winningTower_0 : decode cX5_winningTower 0 = .ok (.iload_n 2, 1) := by decide +kernel
theorem dX5_winningTower_1 : decode cX5_winningTower 1 = .ok (.ifCond .gt 6, 3) := by decide +kernel
theorem dX5_winningTower_4 : decode cX5_winningTower 4 = .ok (.bipush (-9), 2) := by decide +kernel
theorem dX5_winningTower_6 : decode cX5_winningTower 6 = .ok (.ireturn, 1) := by decide +kernel
theorem dX5_winningTower_7 : decode cX5_winningTower 7 = .ok (.iconst 0, 1) := by decide +kernel
theorem dX5_winningTower_8 : decode cX5_winningTower 8 = .ok (.istore_n 3, 1) := by decide +kernel
theorem dX5_winningTower_9 : decode cX5_winningTower 9 = .ok (.iload_n 3, 1) := by decide +kernel
theorem dX5_winningTower_10 : decode cX5_winningTower 10 = .ok (.aload_n 0, 1) := by decide +kernel
theorem dX5_winningTower_11 : decode cX5_winningTower 11 = .ok (.invokevirtual 121, 3) := by decide +kernel
theorem dX5_winningTower_14 : decode cX5_winningTower 14 = .ok (.if_icmp .ge 58, 3) := by decide +kernel
theorem dX5_winningTower_17 : decode cX5_winningTower 17 = .ok (.aload_n 0, 1) := by decide +kernel
theorem dX5_winningTower_18 : decode cX5_winningTower 18 = .ok (.iload_n 3, 1) := by decide +kernel
theorem dX5_winningTower_19 : decode cX5_winningTower 19 = .ok (.iconst 0, 1) := by decide +kernel
theorem dX5_winningTower_20 : decode cX5_winningTower 20 = .ok (.iload_n 1, 1) := by decide +kernel
theorem dX5_winningTower_21 : decode cX5_winningTower 21 = .ok (.invokevirtual 176, 3) := by decide +kernel
theorem dX5_winningTower_24 : decode cX5_winningTower 24 = .ok (.ifCond .eq 42, 3) := by decide +kernel
theorem dX5_winningTower_27 : decode cX5_winningTower 27 = .ok (.aload_n 0, 1) := by decide +kernel
theorem dX5_winningTower_28 : decode cX5_winningTower 28 = .ok (.invokevirtual 253, 3) := by decide +kernel
theorem dX5_winningTower_31 : decode cX5_winningTower 31 = .ok (.ifCond .eq 20, 3) := by decide +kernel
theorem dX5_winningTower_34 : decode cX5_winningTower 34 = .ok (.aload_n 0, 1) := by decide +kernel
theorem dX5_winningTower_35 : decode cX5_winningTower 35 = .ok (.iload_n 1, 1) := by decide +kernel
theorem dX5_winningTower_36 : decode cX5_winningTower 36 = .ok (.iload_n 2, 1) := by decide +kernel
theorem dX5_winningTower_37 : decode cX5_winningTower 37 = .ok (.iconst 1, 1) := by decide +kernel
theorem dX5_winningTower_38 : decode cX5_winningTower 38 = .ok (.isub, 1) := by decide +kernel
theorem dX5_winningTower_39 : decode cX5_winningTower 39 = .ok (.invokestatic 274, 3) := by decide +kernel
theorem dX5_winningTower_42 : decode cX5_winningTower 42 = .ok (.bipush (-9), 2) := by decide +kernel
theorem dX5_winningTower_44 : decode cX5_winningTower 44 = .ok (.if_icmp .ne 7, 3) := by decide +kernel
theorem dX5_winningTower_47 : decode cX5_winningTower 47 = .ok (.iconst 1, 1) := by decide +kernel
theorem dX5_winningTower_48 : decode cX5_winningTower 48 = .ok (.goto 4, 3) := by decide +kernel
theorem dX5_winningTower_51 : decode cX5_winningTower 51 = .ok (.iconst 0, 1) := by decide +kernel
theorem dX5_winningTower_52 : decode cX5_winningTower 52 = .ok (.istore 4, 2) := by decide +kernel
theorem dX5_winningTower_54 : decode cX5_winningTower 54 = .ok (.aload_n 0, 1) := by decide +kernel
theorem dX5_winningTower_55 : decode cX5_winningTower 55 = .ok (.iload_n 3, 1) := by decide +kernel
theorem dX5_winningTower_56 : decode cX5_winningTower 56 = .ok (.invokevirtual 241, 3) := by decide +kernel
theorem dX5_winningTower_59 : decode cX5_winningTower 59 = .ok (.iload 4, 2) := by decide +kernel
theorem dX5_winningTower_61 : decode cX5_winningTower 61 = .ok (.ifCond .eq 5, 3) := by decide +kernel
theorem dX5_winningTower_64 : decode cX5_winningTower 64 = .ok (.iload_n 3, 1) := by decide +kernel
theorem dX5_winningTower_65 : decode cX5_winningTower 65 = .ok (.ireturn, 1) := by decide +kernel
theorem dX5_winningTower_66 : decode cX5_winningTower 66 = .ok (.iinc 3 1, 3) := by decide +kernel
theorem dX5_winningTower_69 : decode cX5_winningTower 69 = .ok (.goto (-60), 3) := by decide +kernel
theorem dX5_winningTower_72 : decode cX5_winningTower 72 = .ok (.bipush (-9), 2) := by decide +kernel
theorem dX5_winningTower_74 : decode cX5_winningTower 74 = .ok (.ireturn, 1) := by decide +kernel
theorem dX5_isLightAsIn_0 : decode cX5_isLightAsIn 0 = .ok (.iconst 0, 1) := by decide +kernel
theorem dX5_isLightAsIn_1 : decode cX5_isLightAsIn 1 = .ok (.istore_n 3, 1) := by decide +kernel
theorem dX5_isLightAsIn_2 : decode cX5_isLightAsIn 2 = .ok (.iload_n 3, 1) := by decide +kernel
theorem dX5_isLightAsIn_3 : decode cX5_isLightAsIn 3 = .ok (.aload_n 0, 1) := by decide +kernel
theorem dX5_isLightAsIn_4 : decode cX5_isLightAsIn 4 = .ok (.getfield 14, 3) := by decide +kernel
theorem dX5_isLightAsIn_7 : decode cX5_isLightAsIn 7 = .ok (.iload_n 1, 1) := by decide +kernel
theorem dX5_isLightAsIn_8 : decode cX5_isLightAsIn 8 = .ok (.invokevirtual 104, 3) := by decide +kernel
theorem dX5_isLightAsIn_11 : decode cX5_isLightAsIn 11 = .ok (.if_icmp .ge 32, 3) := by decide +kernel
theorem dX5_isLightAsIn_14 : decode cX5_isLightAsIn 14 = .ok (.aload_n 0, 1) := by decide +kernel
theorem dX5_isLightAsIn_15 : decode cX5_isLightAsIn 15 = .ok (.getfield 14, 3) := by decide +kernel
theorem dX5_isLightAsIn_18 : decode cX5_isLightAsIn 18 = .ok (.iload_n 1, 1) := by decide +kernel
theorem dX5_isLightAsIn_19 : decode cX5_isLightAsIn 19 = .ok (.iload_n 3, 1) := by decide +kernel
theorem dX5_isLightAsIn_20 : decode cX5_isLightAsIn 20 = .ok (.invokevirtual 82, 3) := by decide +kernel
theorem dX5_isLightAsIn_23 : decode cX5_isLightAsIn 23 = .ok (.aload_n 0, 1) := by decide +kernel
theorem dX5_isLightAsIn_24 : decode cX5_isLightAsIn 24 = .ok (.getfield 44, 3) := by decide +kernel
theorem dX5_isLightAsIn_27 : decode cX5_isLightAsIn 27 = .ok (.iload_n 3, 1) := by decide +kernel
theorem dX5_isLightAsIn_28 : decode cX5_isLightAsIn 28 = .ok (.iload_n 2, 1) := by decide +kernel
theorem dX5_isLightAsIn_29 : decode cX5_isLightAsIn 29 = .ok (.invokevirtual 367, 3) := by decide +kernel
theorem dX5_isLightAsIn_32 : decode cX5_isLightAsIn 32 = .ok (.if_icmp .eq 5, 3) := by decide +kernel
theorem dX5_isLightAsIn_35 : decode cX5_isLightAsIn 35 = .ok (.iconst 0, 1) := by decide +kernel
theorem dX5_isLightAsIn_36 : decode cX5_isLightAsIn 36 = .ok (.ireturn, 1) := by decide +kernel
theorem dX5_isLightAsIn_37 : decode cX5_isLightAsIn 37 = .ok (.iinc 3 1, 3) := by decide +kernel
theorem dX5_isLightAsIn_40 : decode cX5_isLightAsIn 40 = .ok (.goto (-38), 3) := by decide +kernel
theorem dX5_isLightAsIn_43 : decode cX5_isLightAsIn 43 = .ok (.iconst 1, 1) := by decide +kernel
theorem dX5_isLightAsIn_44 : decode cX5_isLightAsIn 44 = .ok (.ireturn, 1) := by decide +kernel
theorem dX5_digestHouses_0 : decode cX5_digestHouses 0 = .ok (.lload_n 1, 1) := by decide +kernel
theorem dX5_digestHouses_1 : decode cX5_digestHouses 1 = .ok (.lstore_n 3, 1) := by decide +kernel
theorem dX5_digestHouses_2 : decode cX5_digestHouses 2 = .ok (.aload_n 0, 1) := by decide +kernel
theorem dX5_digestHouses_3 : decode cX5_digestHouses 3 = .ok (.getfield 44, 3) := by decide +kernel
theorem dX5_digestHouses_6 : decode cX5_digestHouses 6 = .ok (.aload_n 0, 1) := by decide +kernel
theorem dX5_digestHouses_7 : decode cX5_digestHouses 7 = .ok (.getfield 26, 3) := by decide +kernel
theorem dX5_digestHouses_10 : decode cX5_digestHouses 10 = .ok (.getfield 125, 3) := by decide +kernel
theorem dX5_digestHouses_13 : decode cX5_digestHouses 13 = .ok (.invokevirtual 138, 3) := by decide +kernel
theorem dX5_digestHouses_16 : decode cX5_digestHouses 16 = .ok (.iconst 0, 1) := by decide +kernel
theorem dX5_digestHouses_17 : decode cX5_digestHouses 17 = .ok (.istore 5, 2) := by decide +kernel
theorem dX5_digestHouses_19 : decode cX5_digestHouses 19 = .ok (.iload 5, 2) := by decide +kernel
theorem dX5_digestHouses_21 : decode cX5_digestHouses 21 = .ok (.aload_n 0, 1) := by decide +kernel
theorem dX5_digestHouses_22 : decode cX5_digestHouses 22 = .ok (.getfield 26, 3) := by decide +kernel
theorem dX5_digestHouses_25 : decode cX5_digestHouses 25 = .ok (.getfield 125, 3) := by decide +kernel
theorem dX5_digestHouses_28 : decode cX5_digestHouses 28 = .ok (.invokevirtual 121, 3) := by decide +kernel
theorem dX5_digestHouses_31 : decode cX5_digestHouses 31 = .ok (.if_icmp .ge 89, 3) := by decide +kernel
theorem dX5_digestHouses_34 : decode cX5_digestHouses 34 = .ok (.ldc2_w 319, 3) := by decide +kernel
theorem dX5_digestHouses_37 : decode cX5_digestHouses 37 = .ok (.lload_n 3, 1) := by decide +kernel
theorem dX5_digestHouses_38 : decode cX5_digestHouses 38 = .ok (.lmul, 1) := by decide +kernel
theorem dX5_digestHouses_39 : decode cX5_digestHouses 39 = .ok (.aload_n 0, 1) := by decide +kernel
theorem dX5_digestHouses_40 : decode cX5_digestHouses 40 = .ok (.getfield 26, 3) := by decide +kernel
theorem dX5_digestHouses_43 : decode cX5_digestHouses 43 = .ok (.getfield 125, 3) := by decide +kernel
theorem dX5_digestHouses_46 : decode cX5_digestHouses 46 = .ok (.iload 5, 2) := by decide +kernel
theorem dX5_digestHouses_48 : decode cX5_digestHouses 48 = .ok (.invokevirtual 131, 3) := by decide +kernel
theorem dX5_digestHouses_51 : decode cX5_digestHouses 51 = .ok (.i2l, 1) := by decide +kernel
theorem dX5_digestHouses_52 : decode cX5_digestHouses 52 = .ok (.ladd, 1) := by decide +kernel
theorem dX5_digestHouses_53 : decode cX5_digestHouses 53 = .ok (.lstore_n 3, 1) := by decide +kernel
theorem dX5_digestHouses_54 : decode cX5_digestHouses 54 = .ok (.iconst 0, 1) := by decide +kernel
theorem dX5_digestHouses_55 : decode cX5_digestHouses 55 = .ok (.istore 6, 2) := by decide +kernel
theorem dX5_digestHouses_57 : decode cX5_digestHouses 57 = .ok (.iload 6, 2) := by decide +kernel
theorem dX5_digestHouses_59 : decode cX5_digestHouses 59 = .ok (.aload_n 0, 1) := by decide +kernel
theorem dX5_digestHouses_60 : decode cX5_digestHouses 60 = .ok (.getfield 26, 3) := by decide +kernel
theorem dX5_digestHouses_63 : decode cX5_digestHouses 63 = .ok (.getfield 125, 3) := by decide +kernel
theorem dX5_digestHouses_66 : decode cX5_digestHouses 66 = .ok (.iload 5, 2) := by decide +kernel
theorem dX5_digestHouses_68 : decode cX5_digestHouses 68 = .ok (.invokevirtual 131, 3) := by decide +kernel
theorem dX5_digestHouses_71 : decode cX5_digestHouses 71 = .ok (.if_icmp .ge 43, 3) := by decide +kernel
theorem dX5_digestHouses_74 : decode cX5_digestHouses 74 = .ok (.iconst 0, 1) := by decide +kernel
theorem dX5_digestHouses_75 : decode cX5_digestHouses 75 = .ok (.istore 7, 2) := by decide +kernel
theorem dX5_digestHouses_77 : decode cX5_digestHouses 77 = .ok (.iload 7, 2) := by decide +kernel
theorem dX5_digestHouses_79 : decode cX5_digestHouses 79 = .ok (.bipush 6, 2) := by decide +kernel
theorem dX5_digestHouses_81 : decode cX5_digestHouses 81 = .ok (.if_icmp .gt 27, 3) := by decide +kernel
theorem dX5_digestHouses_84 : decode cX5_digestHouses 84 = .ok (.ldc2_w 319, 3) := by decide +kernel
theorem dX5_digestHouses_87 : decode cX5_digestHouses 87 = .ok (.lload_n 3, 1) := by decide +kernel
theorem dX5_digestHouses_88 : decode cX5_digestHouses 88 = .ok (.lmul, 1) := by decide +kernel
theorem dX5_digestHouses_89 : decode cX5_digestHouses 89 = .ok (.aload_n 0, 1) := by decide +kernel
theorem dX5_digestHouses_90 : decode cX5_digestHouses 90 = .ok (.iload 5, 2) := by decide +kernel
theorem dX5_digestHouses_92 : decode cX5_digestHouses 92 = .ok (.iload 6, 2) := by decide +kernel
theorem dX5_digestHouses_94 : decode cX5_digestHouses 94 = .ok (.iload 7, 2) := by decide +kernel
theorem dX5_digestHouses_96 : decode cX5_digestHouses 96 = .ok (.invokevirtual 141, 3) := by decide +kernel
theorem dX5_digestHouses_99 : decode cX5_digestHouses 99 = .ok (.i2l, 1) := by decide +kernel
theorem dX5_digestHouses_100 : decode cX5_digestHouses 100 = .ok (.ladd, 1) := by decide +kernel
theorem dX5_digestHouses_101 : decode cX5_digestHouses 101 = .ok (.lstore_n 3, 1) := by decide +kernel
theorem dX5_digestHouses_102 : decode cX5_digestHouses 102 = .ok (.iinc 7 1, 3) := by decide +kernel
theorem dX5_digestHouses_105 : decode cX5_digestHouses 105 = .ok (.goto (-28), 3) := by decide +kernel
theorem dX5_digestHouses_108 : decode cX5_digestHouses 108 = .ok (.iinc 6 1, 3) := by decide +kernel
theorem dX5_digestHouses_111 : decode cX5_digestHouses 111 = .ok (.goto (-54), 3) := by decide +kernel
theorem dX5_digestHouses_114 : decode cX5_digestHouses 114 = .ok (.iinc 5 1, 3) := by decide +kernel
theorem dX5_digestHouses_117 : decode cX5_digestHouses 117 = .ok (.goto (-98), 3) := by decide +kernel
theorem dX5_digestHouses_120 : decode cX5_digestHouses 120 = .ok (.lload_n 3, 1) := by decide +kernel
theorem dX5_digestHouses_121 : decode cX5_digestHouses 121 = .ok (.lreturn, 1) := by decide +kernel
theorem dX6_init_0 : decode cX6_init 0 = .ok (.aload_n 0, 1) := by decide +kernel
theorem dX6_init_1 : decode cX6_init 1 = .ok (.invokespecial 1, 3) := by decide +kernel
theorem dX6_init_4 : decode cX6_init 4 = .ok (.aload_n 0, 1) := by decide +kernel
theorem dX6_init_5 : decode cX6_init 5 = .ok (.sipush 10956, 3) := by decide +kernel
theorem dX6_init_8 : decode cX6_init 8 = .ok (.newarray .int, 2) := by decide +kernel
theorem dX6_init_10 : decode cX6_init 10 = .ok (.putfield 7, 3) := by decide +kernel
theorem dX6_init_13 : decode cX6_init 13 = .ok (.aload_n 0, 1) := by decide +kernel
theorem dX6_init_14 : decode cX6_init 14 = .ok (.iconst 3, 1) := by decide +kernel
theorem dX6_init_15 : decode cX6_init 15 = .ok (.newarray .int, 2) := by decide +kernel
theorem dX6_init_17 : decode cX6_init 17 = .ok (.putfield 13, 3) := by decide +kernel
theorem dX6_init_20 : decode cX6_init 20 = .ok (.aload_n 0, 1) := by decide +kernel
theorem dX6_init_21 : decode cX6_init 21 = .ok (.sipush 240, 3) := by decide +kernel
theorem dX6_init_24 : decode cX6_init 24 = .ok (.newarray .int, 2) := by decide +kernel
theorem dX6_init_26 : decode cX6_init 26 = .ok (.putfield 16, 3) := by decide +kernel
theorem dX6_init_29 : decode cX6_init 29 = .ok (.aload_n 0, 1) := by decide +kernel
theorem dX6_init_30 : decode cX6_init 30 = .ok (.bipush 6, 2) := by decide +kernel
theorem dX6_init_32 : decode cX6_init 32 = .ok (.newarray .int, 2) := by decide +kernel
theorem dX6_init_34 : decode cX6_init 34 = .ok (.putfield 19, 3) := by decide +kernel
theorem dX6_init_37 : decode cX6_init 37 = .ok (.aload_n 0, 1) := by decide +kernel
theorem dX6_init_38 : decode cX6_init 38 = .ok (.sipush 240, 3) := by decide +kernel
theorem dX6_init_41 : decode cX6_init 41 = .ok (.newarray .int, 2) := by decide +kernel
theorem dX6_init_43 : decode cX6_init 43 = .ok (.putfield 22, 3) := by decide +kernel
theorem dX6_init_46 : decode cX6_init 46 = .ok (.aload_n 0, 1) := by decide +kernel
theorem dX6_init_47 : decode cX6_init 47 = .ok (.iconst 4, 1) := by decide +kernel
theorem dX6_init_48 : decode cX6_init 48 = .ok (.newarray .int, 2) := by decide +kernel
theorem dX6_init_50 : decode cX6_init 50 = .ok (.putfield 25, 3) := by decide +kernel
theorem dX6_init_53 : decode cX6_init 53 = .ok (.aload_n 0, 1) := by decide +kernel
theorem dX6_init_54 : decode cX6_init 54 = .ok (.bipush 40, 2) := by decide +kernel
theorem dX6_init_56 : decode cX6_init 56 = .ok (.newarray .int, 2) := by decide +kernel
theorem dX6_init_58 : decode cX6_init 58 = .ok (.putfield 28, 3) := by decide +kernel
theorem dX6_init_61 : decode cX6_init 61 = .ok (.aload_n 0, 1) := by decide +kernel
theorem dX6_init_62 : decode cX6_init 62 = .ok (.bipush 6, 2) := by decide +kernel
theorem dX6_init_64 : decode cX6_init 64 = .ok (.newarray .int, 2) := by decide +kernel
theorem dX6_init_66 : decode cX6_init 66 = .ok (.putfield 31, 3) := by decide +kernel
theorem dX6_init_69 : decode cX6_init 69 = .ok (.aload_n 0, 1) := by decide +kernel
theorem dX6_init_70 : decode cX6_init 70 = .ok (.lconst 1, 1) := by decide +kernel
theorem dX6_init_71 : decode cX6_init 71 = .ok (.putfield 34, 3) := by decide +kernel
theorem dX6_init_74 : decode cX6_init 74 = .ok (.aload_n 0, 1) := by decide +kernel
theorem dX6_init_75 : decode cX6_init 75 = .ok (.sipush 144, 3) := by decide +kernel
theorem dX6_init_78 : decode cX6_init 78 = .ok (.newarray .int, 2) := by decide +kernel
theorem dX6_init_80 : decode cX6_init 80 = .ok (.putfield 38, 3) := by decide +kernel
theorem dX6_init_83 : decode cX6_init 83 = .ok (.aload_n 0, 1) := by decide +kernel
theorem dX6_init_84 : decode cX6_init 84 = .ok (.sipush 4096, 3) := by decide +kernel
theorem dX6_init_87 : decode cX6_init 87 = .ok (.newarray .int, 2) := by decide +kernel
theorem dX6_init_89 : decode cX6_init 89 = .ok (.putfield 41, 3) := by decide +kernel
theorem dX6_init_92 : decode cX6_init 92 = .ok (.aload_n 0, 1) := by decide +kernel
theorem dX6_init_93 : decode cX6_init 93 = .ok (.sipush 4096, 3) := by decide +kernel
theorem dX6_init_96 : decode cX6_init 96 = .ok (.newarray .int, 2) := by decide +kernel
theorem dX6_init_98 : decode cX6_init 98 = .ok (.putfield 44, 3) := by decide +kernel
theorem dX6_init_101 : decode cX6_init 101 = .ok (.aload_n 0, 1) := by decide +kernel
theorem dX6_init_102 : decode cX6_init 102 = .ok (.iconst 5, 1) := by decide +kernel
theorem dX6_init_103 : decode cX6_init 103 = .ok (.newarray .int, 2) := by decide +kernel
theorem dX6_init_105 : decode cX6_init 105 = .ok (.putfield 47, 3) := by decide +kernel
theorem dX6_init_108 : decode cX6_init 108 = .ok (.aload_n 0, 1) := by decide +kernel
theorem dX6_init_109 : decode cX6_init 109 = .ok (.iconst 5, 1) := by decide +kernel
theorem dX6_init_110 : decode cX6_init 110 = .ok (.newarray .boolean, 2) := by decide +kernel
theorem dX6_init_112 : decode cX6_init 112 = .ok (.putfield 50, 3) := by decide +kernel
theorem dX6_init_115 : decode cX6_init 115 = .ok (.iconst 0, 1) := by decide +kernel
theorem dX6_init_116 : decode cX6_init 116 = .ok (.istore_n 1, 1) := by decide +kernel
theorem dX6_init_117 : decode cX6_init 117 = .ok (.iload_n 1, 1) := by decide +kernel
theorem dX6_init_118 : decode cX6_init 118 = .ok (.bipush 6, 2) := by decide +kernel
theorem dX6_init_120 : decode cX6_init 120 = .ok (.if_icmp .ge 16, 3) := by decide +kernel
theorem dX6_init_123 : decode cX6_init 123 = .ok (.aload_n 0, 1) := by decide +kernel
theorem dX6_init_124 : decode cX6_init 124 = .ok (.getfield 19, 3) := by decide +kernel
theorem dX6_init_127 : decode cX6_init 127 = .ok (.iload_n 1, 1) := by decide +kernel
theorem dX6_init_128 : decode cX6_init 128 = .ok (.iconst (-1), 1) := by decide +kernel
theorem dX6_init_129 : decode cX6_init 129 = .ok (.iastore, 1) := by decide +kernel
theorem dX6_init_130 : decode cX6_init 130 = .ok (.iinc 1 1, 3) := by decide +kernel
theorem dX6_init_133 : decode cX6_init 133 = .ok (.goto (-16), 3) := by decide +kernel
theorem dX6_init_136 : decode cX6_init 136 = .ok (.iconst 0, 1) := by decide +kernel
theorem dX6_init_137 : decode cX6_init 137 = .ok (.istore_n 1, 1) := by decide +kernel
theorem dX6_init_138 : decode cX6_init 138 = .ok (.iload_n 1, 1) := by decide +kernel
theorem dX6_init_139 : decode cX6_init 139 = .ok (.iconst 4, 1) := by decide +kernel
theorem dX6_init_140 : decode cX6_init 140 = .ok (.if_icmp .ge 16, 3) := by decide +kernel
theorem dX6_init_143 : decode cX6_init 143 = .ok (.aload_n 0, 1) := by decide +kernel
theorem dX6_init_144 : decode cX6_init 144 = .ok (.getfield 25, 3) := by decide +kernel
theorem dX6_init_147 : decode cX6_init 147 = .ok (.iload_n 1, 1) := by decide +kernel
theorem dX6_init_148 : decode cX6_init 148 = .ok (.iconst (-1), 1) := by decide +kernel
theorem dX6_init_149 : decode cX6_init 149 = .ok (.iastore, 1) := by decide +kernel
theorem dX6_init_150 : decode cX6_init 150 = .ok (.iinc 1 1, 3) := by decide +kernel
theorem dX6_init_153 : decode cX6_init 153 = .ok (.goto (-15), 3) := by decide +kernel
theorem dX6_init_156 : decode cX6_init 156 = .ok (.iconst 0, 1) := by decide +kernel
theorem dX6_init_157 : decode cX6_init 157 = .ok (.istore_n 1, 1) := by decide +kernel
theorem dX6_init_158 : decode cX6_init 158 = .ok (.iload_n 1, 1) := by decide +kernel
theorem dX6_init_159 : decode cX6_init 159 = .ok (.iconst 3, 1) := by decide +kernel
theorem dX6_init_160 : decode cX6_init 160 = .ok (.if_icmp .ge 16, 3) := by decide +kernel
theorem dX6_init_163 : decode cX6_init 163 = .ok (.aload_n 0, 1) := by decide +kernel
theorem dX6_init_164 : decode cX6_init 164 = .ok (.getfield 13, 3) := by decide +kernel
theorem dX6_init_167 : decode cX6_init 167 = .ok (.iload_n 1, 1) := by decide +kernel
theorem dX6_init_168 : decode cX6_init 168 = .ok (.iconst (-1), 1) := by decide +kernel
theorem dX6_init_169 : decode cX6_init 169 = .ok (.iastore, 1) := by decide +kernel
theorem dX6_init_170 : decode cX6_init 170 = .ok (.iinc 1 1, 3) := by decide +kernel
theorem dX6_init_173 : decode cX6_init 173 = .ok (.goto (-15), 3) := by decide +kernel
theorem dX6_init_176 : decode cX6_init 176 = .ok (.return_, 1) := by decide +kernel
theorem dX6_in_0 : decode cX6_in 0 = .ok (.lload_n 0, 1) := by decide +kernel
theorem dX6_in_1 : decode cX6_in 1 = .ok (.lload_n 2, 1) := by decide +kernel
theorem dX6_in_2 : decode cX6_in 2 = .ok (.lcmp, 1) := by decide +kernel
theorem dX6_in_3 : decode cX6_in 3 = .ok (.ifCond .lt 14, 3) := by decide +kernel
theorem dX6_in_6 : decode cX6_in 6 = .ok (.lload_n 0, 1) := by decide +kernel
theorem dX6_in_7 : decode cX6_in 7 = .ok (.lload 4, 2) := by decide +kernel
theorem dX6_in_9 : decode cX6_in 9 = .ok (.lcmp, 1) := by decide +kernel
theorem dX6_in_10 : decode cX6_in 10 = .ok (.ifCond .gt 7, 3) := by decide +kernel
theorem dX6_in_13 : decode cX6_in 13 = .ok (.iconst 1, 1) := by decide +kernel
theorem dX6_in_14 : decode cX6_in 14 = .ok (.goto 4, 3) := by decide +kernel
theorem dX6_in_17 : decode cX6_in 17 = .ok (.iconst 0, 1) := by decide +kernel
theorem dX6_in_18 : decode cX6_in 18 = .ok (.ireturn, 1) := by decide +kernel
theorem dX6_has_0 : decode cX6_has 0 = .ok (.iload_n 0, 1) := by decide +kernel
theorem dX6_has_1 : decode cX6_has 1 = .ok (.iload_n 1, 1) := by decide +kernel
theorem dX6_has_2 : decode cX6_has 2 = .ok (.ishr, 1) := by decide +kernel
theorem dX6_has_3 : decode cX6_has 3 = .ok (.iconst 1, 1) := by decide +kernel
theorem dX6_has_4 : decode cX6_has 4 = .ok (.iand, 1) := by decide +kernel
theorem dX6_has_5 : decode cX6_has 5 = .ok (.iconst 1, 1) := by decide +kernel
theorem dX6_has_6 : decode cX6_has 6 = .ok (.if_icmp .ne 7, 3) := by decide +kernel
theorem dX6_has_9 : decode cX6_has 9 = .ok (.iconst 1, 1) := by decide +kernel
theorem dX6_has_10 : decode cX6_has 10 = .ok (.goto 4, 3) := by decide +kernel
theorem dX6_has_13 : decode cX6_has 13 = .ok (.iconst 0, 1) := by decide +kernel
theorem dX6_has_14 : decode cX6_has 14 = .ok (.ireturn, 1) := by decide +kernel
theorem dX6_ones_0 : decode cX6_ones 0 = .ok (.iconst 0, 1) := by decide +kernel
theorem dX6_ones_1 : decode cX6_ones 1 = .ok (.istore_n 1, 1) := by decide +kernel
theorem dX6_ones_2 : decode cX6_ones 2 = .ok (.iload_n 0, 1) := by decide +kernel
theorem dX6_ones_3 : decode cX6_ones 3 = .ok (.istore_n 2, 1) := by decide +kernel
theorem dX6_ones_4 : decode cX6_ones 4 = .ok (.iload_n 2, 1) := by decide +kernel
theorem dX6_ones_5 : decode cX6_ones 5 = .ok (.ifCond .le 16, 3) := by decide +kernel
theorem dX6_ones_8 : decode cX6_ones 8 = .ok (.iload_n 1, 1) := by decide +kernel
theorem dX6_ones_9 : decode cX6_ones 9 = .ok (.iload_n 2, 1) := by decide +kernel
theorem dX6_ones_10 : decode cX6_ones 10 = .ok (.iconst 1, 1) := by decide +kernel
theorem dX6_ones_11 : decode cX6_ones 11 = .ok (.iand, 1) := by decide +kernel
theorem dX6_ones_12 : decode cX6_ones 12 = .ok (.iadd, 1) := by decide +kernel
theorem dX6_ones_13 : decode cX6_ones 13 = .ok (.istore_n 1, 1) := by decide +kernel
theorem dX6_ones_14 : decode cX6_ones 14 = .ok (.iload_n 2, 1) := by decide +kernel
theorem dX6_ones_15 : decode cX6_ones 15 = .ok (.iconst 1, 1) := by decide +kernel
theorem dX6_ones_16 : decode cX6_ones 16 = .ok (.ishr, 1) := by decide +kernel
theorem dX6_ones_17 : decode cX6_ones 17 = .ok (.istore_n 2, 1) := by decide +kernel
theorem dX6_ones_18 : decode cX6_ones 18 = .ok (.goto (-14), 3) := by decide +kernel
theorem dX6_ones_21 : decode cX6_ones 21 = .ok (.iload_n 1, 1) := by decide +kernel
theorem dX6_ones_22 : decode cX6_ones 22 = .ok (.ireturn, 1) := by decide +kernel
theorem dX6_found_0 : decode cX6_found 0 = .ok (.aload_n 0, 1) := by decide +kernel
theorem dX6_found_1 : decode cX6_found 1 = .ok (.iload_n 1, 1) := by decide +kernel
theorem dX6_found_2 : decode cX6_found 2 = .ok (.putfield 54, 3) := by decide +kernel
theorem dX6_found_5 : decode cX6_found 5 = .ok (.aload_n 0, 1) := by decide +kernel
theorem dX6_found_6 : decode cX6_found 6 = .ok (.getfield 31, 3) := by decide +kernel
theorem dX6_found_9 : decode cX6_found 9 = .ok (.iload_n 1, 1) := by decide +kernel
theorem dX6_found_10 : decode cX6_found 10 = .ok (.dup2, 1) := by decide +kernel
theorem dX6_found_11 : decode cX6_found 11 = .ok (.iaload, 1) := by decide +kernel
theorem dX6_found_12 : decode cX6_found 12 = .ok (.iconst 1, 1) := by decide +kernel
theorem dX6_found_13 : decode cX6_found 13 = .ok (.iadd, 1) := by decide +kernel
theorem dX6_found_14 : decode cX6_found 14 = .ok (.iastore, 1) := by decide +kernel
theorem dX6_found_15 : decode cX6_found 15 = .ok (.bipush (-3), 2) := by decide +kernel
theorem dX6_found_17 : decode cX6_found 17 = .ok (.ireturn, 1) := by decide +kernel
theorem dX6_tells_0 : decode cX6_tells 0 = .ok (.aload_n 0, 1) := by decide +kernel
theorem dX6_tells_1 : decode cX6_tells 1 = .ok (.iload_n 1, 1) := by decide +kernel
theorem dX6_tells_2 : decode cX6_tells 2 = .ok (.putfield 58, 3) := by decide +kernel
theorem dX6_tells_5 : decode cX6_tells 5 = .ok (.iload_n 2, 1) := by decide +kernel
theorem dX6_tells_6 : decode cX6_tells 6 = .ok (.ireturn, 1) := by decide +kernel
theorem dX6_copyAll_0 : decode cX6_copyAll 0 = .ok (.iconst 0, 1) := by decide +kernel
theorem dX6_copyAll_1 : decode cX6_copyAll 1 = .ok (.istore 4, 2) := by decide +kernel
theorem dX6_copyAll_3 : decode cX6_copyAll 3 = .ok (.iload 4, 2) := by decide +kernel
theorem dX6_copyAll_5 : decode cX6_copyAll 5 = .ok (.iload_n 3, 1) := by decide +kernel
theorem dX6_copyAll_6 : decode cX6_copyAll 6 = .ok (.if_icmp .ge 27, 3) := by decide +kernel
theorem dX6_copyAll_9 : decode cX6_copyAll 9 = .ok (.aload_n 0, 1) := by decide +kernel
theorem dX6_copyAll_10 : decode cX6_copyAll 10 = .ok (.getfield 7, 3) := by decide +kernel
theorem dX6_copyAll_13 : decode cX6_copyAll 13 = .ok (.iload_n 2, 1) := by decide +kernel
theorem dX6_copyAll_14 : decode cX6_copyAll 14 = .ok (.iload 4, 2) := by decide +kernel
theorem dX6_copyAll_16 : decode cX6_copyAll 16 = .ok (.iadd, 1) := by decide +kernel
theorem dX6_copyAll_17 : decode cX6_copyAll 17 = .ok (.aload_n 0, 1) := by decide +kernel
theorem dX6_copyAll_18 : decode cX6_copyAll 18 = .ok (.getfield 7, 3) := by decide +kernel
theorem dX6_copyAll_21 : decode cX6_copyAll 21 = .ok (.iload_n 1, 1) := by decide +kernel
theorem dX6_copyAll_22 : decode cX6_copyAll 22 = .ok (.iload 4, 2) := by decide +kernel
theorem dX6_copyAll_24 : decode cX6_copyAll 24 = .ok (.iadd, 1) := by decide +kernel
theorem dX6_copyAll_25 : decode cX6_copyAll 25 = .ok (.iaload, 1) := by decide +kernel
theorem dX6_copyAll_26 : decode cX6_copyAll 26 = .ok (.iastore, 1) := by decide +kernel
theorem dX6_copyAll_27 : decode cX6_copyAll 27 = .ok (.iinc 4 1, 3) := by decide +kernel
theorem dX6_copyAll_30 : decode cX6_copyAll 30 = .ok (.goto (-27), 3) := by decide +kernel
theorem dX6_copyAll_33 : decode cX6_copyAll 33 = .ok (.return_, 1) := by decide +kernel
theorem dX6_isRow_0 : decode cX6_isRow 0 = .ok (.iload_n 0, 1) := by decide +kernel
theorem dX6_isRow_1 : decode cX6_isRow 1 = .ok (.i2l, 1) := by decide +kernel
theorem dX6_isRow_2 : decode cX6_isRow 2 = .ok (.lconst 0, 1) := by decide +kernel
theorem dX6_isRow_3 : decode cX6_isRow 3 = .ok (.ldc2_w 61, 3) := by decide +kernel
theorem dX6_isRow_6 : decode cX6_isRow 6 = .ok (.invokestatic 63, 3) := by decide +kernel
theorem dX6_isRow_9 : decode cX6_isRow 9 = .ok (.ireturn, 1) := by decide +kernel
theorem dX6_isText_0 : decode cX6_isText 0 = .ok (.iload_n 0, 1) := by decide +kernel
theorem dX6_isText_1 : decode cX6_isText 1 = .ok (.i2l, 1) := by decide +kernel
theorem dX6_isText_2 : decode cX6_isText 2 = .ok (.lconst 0, 1) := by decide +kernel
theorem dX6_isText_3 : decode cX6_isText 3 = .ok (.ldc2_w 67, 3) := by decide +kernel
theorem dX6_isText_6 : decode cX6_isText 6 = .ok (.invokestatic 63, 3) := by decide +kernel
theorem dX6_isText_9 : decode cX6_isText 9 = .ok (.ireturn, 1) := by decide +kernel
theorem dX6_row_0 : decode cX6_row 0 = .ok (.iload_n 1, 1) := by decide +kernel
theorem dX6_row_1 : decode cX6_row 1 = .ok (.invokestatic 69, 3) := by decide +kernel
theorem dX6_row_4 : decode cX6_row 4 = .ok (.ifCond .eq 9, 3) := by decide +kernel
theorem dX6_row_7 : decode cX6_row 7 = .ok (.iload_n 2, 1) := by decide +kernel
theorem dX6_row_8 : decode cX6_row 8 = .ok (.bipush 40, 2) := by decide +kernel
theorem dX6_row_10 : decode cX6_row 10 = .ok (.if_icmp .le 5, 3) := by decide +kernel
theorem dX6_row_13 : decode cX6_row 13 = .ok (.iconst (-1), 1) := by decide +kernel
theorem dX6_row_14 : decode cX6_row 14 = .ok (.ireturn, 1) := by decide +kernel
theorem dX6_row_15 : decode cX6_row 15 = .ok (.iload_n 2, 1) := by decide +kernel
theorem dX6_row_16 : decode cX6_row 16 = .ok (.ifCond .ge 9, 3) := by decide +kernel
theorem dX6_row_19 : decode cX6_row 19 = .ok (.aload_n 0, 1) := by decide +kernel
theorem dX6_row_20 : decode cX6_row 20 = .ok (.iconst 5, 1) := by decide +kernel
theorem dX6_row_21 : decode cX6_row 21 = .ok (.invokevirtual 73, 3) := by decide +kernel
theorem dX6_row_24 : decode cX6_row 24 = .ok (.ireturn, 1) := by decide +kernel
theorem dX6_row_25 : decode cX6_row 25 = .ok (.aload_n 0, 1) := by decide +kernel
theorem dX6_row_26 : decode cX6_row 26 = .ok (.getfield 19, 3) := by decide +kernel
theorem dX6_row_29 : decode cX6_row 29 = .ok (.iload_n 1, 1) := by decide +kernel
theorem dX6_row_30 : decode cX6_row 30 = .ok (.iload_n 2, 1) := by decide +kernel
theorem dX6_row_31 : decode cX6_row 31 = .ok (.iastore, 1) := by decide +kernel
theorem dX6_row_32 : decode cX6_row 32 = .ok (.iconst 0, 1) := by decide +kernel
theorem dX6_row_33 : decode cX6_row 33 = .ok (.istore_n 3, 1) := by decide +kernel
theorem dX6_row_34 : decode cX6_row 34 = .ok (.iload_n 3, 1) := by decide +kernel
theorem dX6_row_35 : decode cX6_row 35 = .ok (.bipush 40, 2) := by decide +kernel
theorem dX6_row_37 : decode cX6_row 37 = .ok (.if_icmp .ge 21, 3) := by decide +kernel
theorem dX6_row_40 : decode cX6_row 40 = .ok (.aload_n 0, 1) := by decide +kernel
theorem dX6_row_41 : decode cX6_row 41 = .ok (.getfield 16, 3) := by decide +kernel
theorem dX6_row_44 : decode cX6_row 44 = .ok (.bipush 40, 2) := by decide +kernel
theorem dX6_row_46 : decode cX6_row 46 = .ok (.iload_n 1, 1) := by decide +kernel
theorem dX6_row_47 : decode cX6_row 47 = .ok (.imul, 1) := by decide +kernel
theorem dX6_row_48 : decode cX6_row 48 = .ok (.iload_n 3, 1) := by decide +kernel
theorem dX6_row_49 : decode cX6_row 49 = .ok (.iadd, 1) := by decide +kernel
theorem dX6_row_50 : decode cX6_row 50 = .ok (.iconst 0, 1) := by decide +kernel
theorem dX6_row_51 : decode cX6_row 51 = .ok (.iastore, 1) := by decide +kernel
theorem dX6_row_52 : decode cX6_row 52 = .ok (.iinc 3 1, 3) := by decide +kernel
theorem dX6_row_55 : decode cX6_row 55 = .ok (.goto (-21), 3) := by decide +kernel
theorem dX6_row_58 : decode cX6_row 58 = .ok (.iload_n 2, 1) := by decide +kernel
theorem dX6_row_59 : decode cX6_row 59 = .ok (.ireturn, 1) := by decide +kernel
theorem dX6_lay_0 : decode cX6_lay 0 = .ok (.aload_n 0, 1) := by decide +kernel
theorem dX6_lay_1 : decode cX6_lay 1 = .ok (.iload_n 1, 1) := by decide +kernel
theorem dX6_lay_2 : decode cX6_lay 2 = .ok (.iload_n 2, 1) := by decide +kernel
theorem dX6_lay_3 : decode cX6_lay 3 = .ok (.invokevirtual 77, 3) := by decide +kernel
theorem dX6_lay_6 : decode cX6_lay 6 = .ok (.istore 4, 2) := by decide +kernel
theorem dX6_lay_8 : decode cX6_lay 8 = .ok (.iload 4, 2) := by decide +kernel
theorem dX6_lay_10 : decode cX6_lay 10 = .ok (.iconst 1, 1) := by decide +kernel
theorem dX6_lay_11 : decode cX6_lay 11 = .ok (.if_icmp .ne 15, 3) := by decide +kernel
theorem dX6_lay_14 : decode cX6_lay 14 = .ok (.aload_n 0, 1) := by decide +kernel
theorem dX6_lay_15 : decode cX6_lay 15 = .ok (.getfield 16, 3) := by decide +kernel
theorem dX6_lay_18 : decode cX6_lay 18 = .ok (.bipush 40, 2) := by decide +kernel
theorem dX6_lay_20 : decode cX6_lay 20 = .ok (.iload_n 1, 1) := by decide +kernel
theorem dX6_lay_21 : decode cX6_lay 21 = .ok (.imul, 1) := by decide +kernel
theorem dX6_lay_22 : decode cX6_lay 22 = .ok (.iload_n 2, 1) := by decide +kernel
theorem dX6_lay_23 : decode cX6_lay 23 = .ok (.iadd, 1) := by decide +kernel
theorem dX6_lay_24 : decode cX6_lay 24 = .ok (.iload_n 3, 1) := by decide +kernel
theorem dX6_lay_25 : decode cX6_lay 25 = .ok (.iastore, 1) := by decide +kernel
theorem dX6_lay_26 : decode cX6_lay 26 = .ok (.iload 4, 2) := by decide +kernel
theorem dX6_lay_28 : decode cX6_lay 28 = .ok (.ireturn, 1) := by decide +kernel
theorem dX6_at_0 : decode cX6_at 0 = .ok (.iload_n 1, 1) := by decide +kernel
theorem dX6_at_1 : decode cX6_at 1 = .ok (.invokestatic 69, 3) := by decide +kernel
theorem dX6_at_4 : decode cX6_at 4 = .ok (.ifCond .ne 5, 3) := by decide +kernel
theorem dX6_at_7 : decode cX6_at 7 = .ok (.iconst (-1), 1) := by decide +kernel
theorem dX6_at_8 : decode cX6_at 8 = .ok (.ireturn, 1) := by decide +kernel
theorem dX6_at_9 : decode cX6_at 9 = .ok (.aload_n 0, 1) := by decide +kernel
theorem dX6_at_10 : decode cX6_at 10 = .ok (.getfield 19, 3) := by decide +kernel
theorem dX6_at_13 : decode cX6_at 13 = .ok (.iload_n 1, 1) := by decide +kernel
theorem dX6_at_14 : decode cX6_at 14 = .ok (.iaload, 1) := by decide +kernel
theorem dX6_at_15 : decode cX6_at 15 = .ok (.ifCond .ge 9, 3) := by decide +kernel
theorem dX6_at_18 : decode cX6_at 18 = .ok (.aload_n 0, 1) := by decide +kernel
theorem dX6_at_19 : decode cX6_at 19 = .ok (.iconst 1, 1) := by decide +kernel
theorem dX6_at_20 : decode cX6_at 20 = .ok (.invokevirtual 73, 3) := by decide +kernel
theorem dX6_at_23 : decode cX6_at 23 = .ok (.ireturn, 1) := by decide +kernel
theorem dX6_at_24 : decode cX6_at 24 = .ok (.iload_n 2, 1) := by decide +kernel
theorem dX6_at_25 : decode cX6_at 25 = .ok (.i2l, 1) := by decide +kernel
theorem dX6_at_26 : decode cX6_at 26 = .ok (.lconst 0, 1) := by decide +kernel
theorem dX6_at_27 : decode cX6_at 27 = .ok (.aload_n 0, 1) := by decide +kernel
theorem dX6_at_28 : decode cX6_at 28 = .ok (.getfield 19, 3) := by decide +kernel
theorem dX6_at_31 : decode cX6_at 31 = .ok (.iload_n 1, 1) := by decide +kernel
theorem dX6_at_32 : decode cX6_at 32 = .ok (.iaload, 1) := by decide +kernel
theorem dX6_at_33 : decode cX6_at 33 = .ok (.iconst 1, 1) := by decide +kernel
theorem dX6_at_34 : decode cX6_at 34 = .ok (.isub, 1) := by decide +kernel
theorem dX6_at_35 : decode cX6_at 35 = .ok (.i2l, 1) := by decide +kernel
theorem dX6_at_36 : decode cX6_at 36 = .ok (.invokestatic 63, 3) := by decide +kernel
theorem dX6_at_39 : decode cX6_at 39 = .ok (.ifCond .eq 22, 3) := by decide +kernel
theorem dX6_at_42 : decode cX6_at 42 = .ok (.aload_n 0, 1) := by decide +kernel
theorem dX6_at_43 : decode cX6_at 43 = .ok (.aload_n 0, 1) := by decide +kernel
theorem dX6_at_44 : decode cX6_at 44 = .ok (.getfield 16, 3) := by decide +kernel
theorem dX6_at_47 : decode cX6_at 47 = .ok (.bipush 40, 2) := by decide +kernel
theorem dX6_at_49 : decode cX6_at 49 = .ok (.iload_n 1, 1) := by decide +kernel
theorem dX6_at_50 : decode cX6_at 50 = .ok (.imul, 1) := by decide +kernel
theorem dX6_at_51 : decode cX6_at 51 = .ok (.iload_n 2, 1) := by decide +kernel
theorem dX6_at_52 : decode cX6_at 52 = .ok (.iadd, 1) := by decide +kernel
theorem dX6_at_53 : decode cX6_at 53 = .ok (.iaload, 1) := by decide +kernel
theorem dX6_at_54 : decode cX6_at 54 = .ok (.iconst 1, 1) := by decide +kernel
theorem dX6_at_55 : decode cX6_at 55 = .ok (.invokevirtual 81, 3) := by decide +kernel
theorem dX6_at_58 : decode cX6_at 58 = .ok (.goto 8, 3) := by decide +kernel
theorem dX6_at_61 : decode cX6_at 61 = .ok (.aload_n 0, 1) := by decide +kernel
theorem dX6_at_62 : decode cX6_at 62 = .ok (.iconst 2, 1) := by decide +kernel
theorem dX6_at_63 : decode cX6_at 63 = .ok (.invokevirtual 73, 3) := by decide +kernel
theorem dX6_at_66 : decode cX6_at 66 = .ok (.ireturn, 1) := by decide +kernel
theorem dX6_tear_0 : decode cX6_tear 0 = .ok (.iload_n 1, 1) := by decide +kernel
theorem dX6_tear_1 : decode cX6_tear 1 = .ok (.invokestatic 69, 3) := by decide +kernel
theorem dX6_tear_4 : decode cX6_tear 4 = .ok (.ifCond .ne 5, 3) := by decide +kernel
theorem dX6_tear_7 : decode cX6_tear 7 = .ok (.iconst (-1), 1) := by decide +kernel
theorem dX6_tear_8 : decode cX6_tear 8 = .ok (.ireturn, 1) := by decide +kernel
theorem dX6_tear_9 : decode cX6_tear 9 = .ok (.aload_n 0, 1) := by decide +kernel
theorem dX6_tear_10 : decode cX6_tear 10 = .ok (.getfield 19, 3) := by decide +kernel
theorem dX6_tear_13 : decode cX6_tear 13 = .ok (.iload_n 1, 1) := by decide +kernel
theorem dX6_tear_14 : decode cX6_tear 14 = .ok (.iaload, 1) := by decide +kernel
theorem dX6_tear_15 : decode cX6_tear 15 = .ok (.ifCond .ge 9, 3) := by decide +kernel
theorem dX6_tear_18 : decode cX6_tear 18 = .ok (.aload_n 0, 1) := by decide +kernel
theorem dX6_tear_19 : decode cX6_tear 19 = .ok (.iconst 1, 1) := by decide +kernel
theorem dX6_tear_20 : decode cX6_tear 20 = .ok (.invokevirtual 73, 3) := by decide +kernel
theorem dX6_tear_23 : decode cX6_tear 23 = .ok (.ireturn, 1) := by decide +kernel
theorem dX6_tear_24 : decode cX6_tear 24 = .ok (.aload_n 0, 1) := by decide +kernel
theorem dX6_tear_25 : decode cX6_tear 25 = .ok (.getfield 19, 3) := by decide +kernel
theorem dX6_tear_28 : decode cX6_tear 28 = .ok (.iload_n 1, 1) := by decide +kernel
theorem dX6_tear_29 : decode cX6_tear 29 = .ok (.iconst (-1), 1) := by decide +kernel
theorem dX6_tear_30 : decode cX6_tear 30 = .ok (.iastore, 1) := by decide +kernel
theorem dX6_tear_31 : decode cX6_tear 31 = .ok (.iconst 1, 1) := by decide +kernel
theorem dX6_tear_32 : decode cX6_tear 32 = .ok (.ireturn, 1) := by decide +kernel
theorem dX6_fits_0 : decode cX6_fits 0 = .ok (.iload_n 0, 1) := by decide +kernel
theorem dX6_fits_1 : decode cX6_fits 1 = .ok (.ifCond .lt 18, 3) := by decide +kernel
theorem dX6_fits_4 : decode cX6_fits 4 = .ok (.iload_n 0, 1) := by decide +kernel
theorem dX6_fits_5 : decode cX6_fits 5 = .ok (.i2l, 1) := by decide +kernel
theorem dX6_fits_6 : decode cX6_fits 6 = .ok (.iload_n 1, 1) := by decide +kernel
theorem dX6_fits_7 : decode cX6_fits 7 = .ok (.i2l, 1) := by decide +kernel
theorem dX6_fits_8 : decode cX6_fits 8 = .ok (.ladd, 1) := by decide +kernel
theorem dX6_fits_9 : decode cX6_fits 9 = .ok (.iload_n 2, 1) := by decide +kernel
theorem dX6_fits_10 : decode cX6_fits 10 = .ok (.i2l, 1) := by decide +kernel
theorem dX6_fits_11 : decode cX6_fits 11 = .ok (.lcmp, 1) := by decide +kernel
theorem dX6_fits_12 : decode cX6_fits 12 = .ok (.ifCond .gt 7, 3) := by decide +kernel
theorem dX6_fits_15 : decode cX6_fits 15 = .ok (.iconst 1, 1) := by decide +kernel
theorem dX6_fits_16 : decode cX6_fits 16 = .ok (.goto 4, 3) := by decide +kernel
theorem dX6_fits_19 : decode cX6_fits 19 = .ok (.iconst 0, 1) := by decide +kernel
theorem dX6_fits_20 : decode cX6_fits 20 = .ok (.ireturn, 1) := by decide +kernel
theorem dX6_copy_0 : decode cX6_copy 0 = .ok (.iload_n 1, 1) := by decide +kernel
theorem dX6_copy_1 : decode cX6_copy 1 = .ok (.invokestatic 69, 3) := by decide +kernel
theorem dX6_copy_4 : decode cX6_copy 4 = .ok (.ifCond .eq 10, 3) := by decide +kernel
theorem dX6_copy_7 : decode cX6_copy 7 = .ok (.iload_n 3, 1) := by decide +kernel
theorem dX6_copy_8 : decode cX6_copy 8 = .ok (.invokestatic 69, 3) := by decide +kernel
theorem dX6_copy_11 : decode cX6_copy 11 = .ok (.ifCond .ne 5, 3) := by decide +kernel
theorem dX6_copy_14 : decode cX6_copy 14 = .ok (.iconst (-1), 1) := by decide +kernel
theorem dX6_copy_15 : decode cX6_copy 15 = .ok (.ireturn, 1) := by decide +kernel
theorem dX6_copy_16 : decode cX6_copy 16 = .ok (.iload 5, 2) := by decide +kernel
theorem dX6_copy_18 : decode cX6_copy 18 = .ok (.ifCond .ge 9, 3) := by decide +kernel
theorem dX6_copy_21 : decode cX6_copy 21 = .ok (.aload_n 0, 1) := by decide +kernel
theorem dX6_copy_22 : decode cX6_copy 22 = .ok (.iconst 5, 1) := by decide +kernel
theorem dX6_copy_23 : decode cX6_copy 23 = .ok (.invokevirtual 73, 3) := by decide +kernel
theorem dX6_copy_26 : decode cX6_copy 26 = .ok (.ireturn, 1) := by decide +kernel
theorem dX6_copy_27 : decode cX6_copy 27 = .ok (.aload_n 0, 1) := by decide +kernel
theorem dX6_copy_28 : decode cX6_copy 28 = .ok (.getfield 19, 3) := by decide +kernel
theorem dX6_copy_31 : decode cX6_copy 31 = .ok (.iload_n 1, 1) := by decide +kernel
theorem dX6_copy_32 : decode cX6_copy 32 = .ok (.iaload, 1) := by decide +kernel
theorem dX6_copy_33 : decode cX6_copy 33 = .ok (.ifCond .lt 12, 3) := by decide +kernel
theorem dX6_copy_36 : decode cX6_copy 36 = .ok (.aload_n 0, 1) := by decide +kernel
theorem dX6_copy_37 : decode cX6_copy 37 = .ok (.getfield 19, 3) := by decide +kernel
theorem dX6_copy_40 : decode cX6_copy 40 = .ok (.iload_n 3, 1) := by decide +kernel
theorem dX6_copy_41 : decode cX6_copy 41 = .ok (.iaload, 1) := by decide +kernel
theorem dX6_copy_42 : decode cX6_copy 42 = .ok (.ifCond .ge 9, 3) := by decide +kernel
theorem dX6_copy_45 : decode cX6_copy 45 = .ok (.aload_n 0, 1) := by decide +kernel
theorem dX6_copy_46 : decode cX6_copy 46 = .ok (.iconst 1, 1) := by decide +kernel
theorem dX6_copy_47 : decode cX6_copy 47 = .ok (.invokevirtual 73, 3) := by decide +kernel
theorem dX6_copy_50 : decode cX6_copy 50 = .ok (.ireturn, 1) := by decide +kernel
theorem dX6_copy_51 : decode cX6_copy 51 = .ok (.iload_n 2, 1) := by decide +kernel
theorem dX6_copy_52 : decode cX6_copy 52 = .ok (.iload 5, 2) := by decide +kernel
theorem dX6_copy_54 : decode cX6_copy 54 = .ok (.aload_n 0, 1) := by decide +kernel
theorem dX6_copy_55 : decode cX6_copy 55 = .ok (.getfield 19, 3) := by decide +kernel
theorem dX6_copy_58 : decode cX6_copy 58 = .ok (.iload_n 1, 1) := by decide +kernel
theorem dX6_copy_59 : decode cX6_copy 59 = .ok (.iaload, 1) := by decide +kernel
theorem dX6_copy_60 : decode cX6_copy 60 = .ok (.invokestatic 84, 3) := by decide +kernel
theorem dX6_copy_63 : decode cX6_copy 63 = .ok (.ifCond .eq 19, 3) := by decide +kernel
theorem dX6_copy_66 : decode cX6_copy 66 = .ok (.iload 4, 2) := by decide +kernel
theorem dX6_copy_68 : decode cX6_copy 68 = .ok (.iload 5, 2) := by decide +kernel
theorem dX6_copy_70 : decode cX6_copy 70 = .ok (.aload_n 0, 1) := by decide +kernel
theorem dX6_copy_71 : decode cX6_copy 71 = .ok (.getfield 19, 3) := by decide +kernel
theorem dX6_copy_74 : decode cX6_copy 74 = .ok (.iload_n 3, 1) := by decide +kernel
theorem dX6_copy_75 : decode cX6_copy 75 = .ok (.iaload, 1) := by decide +kernel
theorem dX6_copy_76 : decode cX6_copy 76 = .ok (.invokestatic 84, 3) := by decide +kernel
theorem dX6_copy_79 : decode cX6_copy 79 = .ok (.ifCond .ne 9, 3) := by decide +kernel
theorem dX6_copy_82 : decode cX6_copy 82 = .ok (.aload_n 0, 1) := by decide +kernel
theorem dX6_copy_83 : decode cX6_copy 83 = .ok (.iconst 2, 1) := by decide +kernel
theorem dX6_copy_84 : decode cX6_copy 84 = .ok (.invokevirtual 73, 3) := by decide +kernel
theorem dX6_copy_87 : decode cX6_copy 87 = .ok (.ireturn, 1) := by decide +kernel
theorem dX6_copy_88 : decode cX6_copy 88 = .ok (.iconst 0, 1) := by decide +kernel
theorem dX6_copy_89 : decode cX6_copy 89 = .ok (.istore 6, 2) := by decide +kernel
theorem dX6_copy_91 : decode cX6_copy 91 = .ok (.iload 6, 2) := by decide +kernel
theorem dX6_copy_93 : decode cX6_copy 93 = .ok (.iload 5, 2) := by decide +kernel
theorem dX6_copy_95 : decode cX6_copy 95 = .ok (.if_icmp .ge 30, 3) := by decide +kernel
theorem dX6_copy_98 : decode cX6_copy 98 = .ok (.aload_n 0, 1) := by decide +kernel
theorem dX6_copy_99 : decode cX6_copy 99 = .ok (.getfield 28, 3) := by decide +kernel
theorem dX6_copy_102 : decode cX6_copy 102 = .ok (.iload 6, 2) := by decide +kernel
theorem dX6_copy_104 : decode cX6_copy 104 = .ok (.aload_n 0, 1) := by decide +kernel
theorem dX6_copy_105 : decode cX6_copy 105 = .ok (.getfield 16, 3) := by decide +kernel
theorem dX6_copy_108 : decode cX6_copy 108 = .ok (.bipush 40, 2) := by decide +kernel
theorem dX6_copy_110 : decode cX6_copy 110 = .ok (.iload_n 1, 1) := by decide +kernel
theorem dX6_copy_111 : decode cX6_copy 111 = .ok (.imul, 1) := by decide +kernel
theorem dX6_copy_112 : decode cX6_copy 112 = .ok (.iload_n 2, 1) := by decide +kernel
theorem dX6_copy_113 : decode cX6_copy 113 = .ok (.iadd, 1) := by decide +kernel
theorem dX6_copy_114 : decode cX6_copy 114 = .ok (.iload 6, 2) := by decide +kernel
theorem dX6_copy_116 : decode cX6_copy 116 = .ok (.iadd, 1) := by decide +kernel
theorem dX6_copy_117 : decode cX6_copy 117 = .ok (.iaload, 1) := by decide +kernel
theorem dX6_copy_118 : decode cX6_copy 118 = .ok (.iastore, 1) := by decide +kernel
theorem dX6_copy_119 : decode cX6_copy 119 = .ok (.iinc 6 1, 3) := by decide +kernel
theorem dX6_copy_122 : decode cX6_copy 122 = .ok (.goto (-31), 3) := by decide +kernel
theorem dX6_copy_125 : decode cX6_copy 125 = .ok (.iconst 0, 1) := by decide +kernel
theorem dX6_copy_126 : decode cX6_copy 126 = .ok (.istore 6, 2) := by decide +kernel
theorem dX6_copy_128 : decode cX6_copy 128 = .ok (.iload 6, 2) := by decide +kernel
theorem dX6_copy_130 : decode cX6_copy 130 = .ok (.iload 5, 2) := by decide +kernel
theorem dX6_copy_132 : decode cX6_copy 132 = .ok (.if_icmp .ge 31, 3) := by decide +kernel
theorem dX6_copy_135 : decode cX6_copy 135 = .ok (.aload_n 0, 1) := by decide +kernel
theorem dX6_copy_136 : decode cX6_copy 136 = .ok (.getfield 16, 3) := by decide +kernel
theorem dX6_copy_139 : decode cX6_copy 139 = .ok (.bipush 40, 2) := by decide +kernel
theorem dX6_copy_141 : decode cX6_copy 141 = .ok (.iload_n 3, 1) := by decide +kernel
theorem dX6_copy_142 : decode cX6_copy 142 = .ok (.imul, 1) := by decide +kernel
theorem dX6_copy_143 : decode cX6_copy 143 = .ok (.iload 4, 2) := by decide +kernel
theorem dX6_copy_145 : decode cX6_copy 145 = .ok (.iadd, 1) := by decide +kernel
theorem dX6_copy_146 : decode cX6_copy 146 = .ok (.iload 6, 2) := by decide +kernel
theorem dX6_copy_148 : decode cX6_copy 148 = .ok (.iadd, 1) := by decide +kernel
theorem dX6_copy_149 : decode cX6_copy 149 = .ok (.aload_n 0, 1) := by decide +kernel
theorem dX6_copy_150 : decode cX6_copy 150 = .ok (.getfield 28, 3) := by decide +kernel
theorem dX6_copy_153 : decode cX6_copy 153 = .ok (.iload 6, 2) := by decide +kernel
theorem dX6_copy_155 : decode cX6_copy 155 = .ok (.iaload, 1) := by decide +kernel
theorem dX6_copy_156 : decode cX6_copy 156 = .ok (.iastore, 1) := by decide +kernel
theorem dX6_copy_157 : decode cX6_copy 157 = .ok (.iinc 6 1, 3) := by decide +kernel
theorem dX6_copy_160 : decode cX6_copy 160 = .ok (.goto (-32), 3) := by decide +kernel
theorem dX6_copy_163 : decode cX6_copy 163 = .ok (.iconst 1, 1) := by decide +kernel
theorem dX6_copy_164 : decode cX6_copy 164 = .ok (.ireturn, 1) := by decide +kernel
theorem dX6_mean_0 : decode cX6_mean 0 = .ok (.iload_n 1, 1) := by decide +kernel
theorem dX6_mean_1 : decode cX6_mean 1 = .ok (.invokestatic 69, 3) := by decide +kernel
theorem dX6_mean_4 : decode cX6_mean 4 = .ok (.ifCond .ne 5, 3) := by decide +kernel
theorem dX6_mean_7 : decode cX6_mean 7 = .ok (.iconst (-1), 1) := by decide +kernel
theorem dX6_mean_8 : decode cX6_mean 8 = .ok (.ireturn, 1) := by decide +kernel
theorem dX6_mean_9 : decode cX6_mean 9 = .ok (.aload_n 0, 1) := by decide +kernel
theorem dX6_mean_10 : decode cX6_mean 10 = .ok (.getfield 19, 3) := by decide +kernel
theorem dX6_mean_13 : decode cX6_mean 13 = .ok (.iload_n 1, 1) := by decide +kernel
theorem dX6_mean_14 : decode cX6_mean 14 = .ok (.iaload, 1) := by decide +kernel
theorem dX6_mean_15 : decode cX6_mean 15 = .ok (.ifCond .ge 9, 3) := by decide +kernel
theorem dX6_mean_18 : decode cX6_mean 18 = .ok (.aload_n 0, 1) := by decide +kernel
theorem dX6_mean_19 : decode cX6_mean 19 = .ok (.iconst 1, 1) := by decide +kernel
theorem dX6_mean_20 : decode cX6_mean 20 = .ok (.invokevirtual 73, 3) := by decide +kernel
theorem dX6_mean_23 : decode cX6_mean 23 = .ok (.ireturn, 1) := by decide +kernel
theorem dX6_mean_24 : decode cX6_mean 24 = .ok (.aload_n 0, 1) := by decide +kernel
theorem dX6_mean_25 : decode cX6_mean 25 = .ok (.getfield 19, 3) := by decide +kernel
theorem dX6_mean_28 : decode cX6_mean 28 = .ok (.iload_n 1, 1) := by decide +kernel
theorem dX6_mean_29 : decode cX6_mean 29 = .ok (.iaload, 1) := by decide +kernel
theorem dX6_mean_30 : decode cX6_mean 30 = .ok (.ifCond .ne 9, 3) := by decide +kernel
theorem dX6_mean_33 : decode cX6_mean 33 = .ok (.aload_n 0, 1) := by decide +kernel
theorem dX6_mean_34 : decode cX6_mean 34 = .ok (.iconst 4, 1) := by decide +kernel
theorem dX6_mean_35 : decode cX6_mean 35 = .ok (.invokevirtual 73, 3) := by decide +kernel
theorem dX6_mean_38 : decode cX6_mean 38 = .ok (.ireturn, 1) := by decide +kernel
theorem dX6_mean_39 : decode cX6_mean 39 = .ok (.lconst 0, 1) := by decide +kernel
theorem dX6_mean_40 : decode cX6_mean 40 = .ok (.lstore_n 2, 1) := by decide +kernel
theorem dX6_mean_41 : decode cX6_mean 41 = .ok (.iconst 0, 1) := by decide +kernel
theorem dX6_mean_42 : decode cX6_mean 42 = .ok (.istore 4, 2) := by decide +kernel
theorem dX6_mean_44 : decode cX6_mean 44 = .ok (.iload 4, 2) := by decide +kernel
theorem dX6_mean_46 : decode cX6_mean 46 = .ok (.aload_n 0, 1) := by decide +kernel
theorem dX6_mean_47 : decode cX6_mean 47 = .ok (.getfield 19, 3) := by decide +kernel
theorem dX6_mean_50 : decode cX6_mean 50 = .ok (.iload_n 1, 1) := by decide +kernel
theorem dX6_mean_51 : decode cX6_mean 51 = .ok (.iaload, 1) := by decide +kernel
theorem dX6_mean_52 : decode cX6_mean 52 = .ok (.if_icmp .ge 25, 3) := by decide +kernel
theorem dX6_mean_55 : decode cX6_mean 55 = .ok (.lload_n 2, 1) := by decide +kernel
theorem dX6_mean_56 : decode cX6_mean 56 = .ok (.aload_n 0, 1) := by decide +kernel
theorem dX6_mean_57 : decode cX6_mean 57 = .ok (.getfield 16, 3) := by decide +kernel
theorem dX6_mean_60 : decode cX6_mean 60 = .ok (.bipush 40, 2) := by decide +kernel
theorem dX6_mean_62 : decode cX6_mean 62 = .ok (.iload_n 1, 1) := by decide +kernel
theorem dX6_mean_63 : decode cX6_mean 63 = .ok (.imul, 1) := by decide +kernel
theorem dX6_mean_64 : decode cX6_mean 64 = .ok (.iload 4, 2) := by decide +kernel
theorem dX6_mean_66 : decode cX6_mean 66 = .ok (.iadd, 1) := by decide +kernel
theorem dX6_mean_67 : decode cX6_mean 67 = .ok (.iaload, 1) := by decide +kernel
theorem dX6_mean_68 : decode cX6_mean 68 = .ok (.i2l, 1) := by decide +kernel
theorem dX6_mean_69 : decode cX6_mean 69 = .ok (.ladd, 1) := by decide +kernel
theorem dX6_mean_70 : decode cX6_mean 70 = .ok (.lstore_n 2, 1) := by decide +kernel
theorem dX6_mean_71 : decode cX6_mean 71 = .ok (.iinc 4 1, 3) := by decide +kernel
theorem dX6_mean_74 : decode cX6_mean 74 = .ok (.goto (-30), 3) := by decide +kernel
theorem dX6_mean_77 : decode cX6_mean 77 = .ok (.aload_n 0, 1) := by decide +kernel
theorem dX6_mean_78 : decode cX6_mean 78 = .ok (.lload_n 2, 1) := by decide +kernel
theorem dX6_mean_79 : decode cX6_mean 79 = .ok (.aload_n 0, 1) := by decide +kernel
theorem dX6_mean_80 : decode cX6_mean 80 = .ok (.getfield 19, 3) := by decide +kernel
theorem dX6_mean_83 : decode cX6_mean 83 = .ok (.iload_n 1, 1) := by decide +kernel
theorem dX6_mean_84 : decode cX6_mean 84 = .ok (.iaload, 1) := by decide +kernel
theorem dX6_mean_85 : decode cX6_mean 85 = .ok (.i2l, 1) := by decide +kernel
theorem dX6_mean_86 : decode cX6_mean 86 = .ok (.ldiv, 1) := by decide +kernel
theorem dX6_mean_87 : decode cX6_mean 87 = .ok (.l2i, 1) := by decide +kernel
theorem dX6_mean_88 : decode cX6_mean 88 = .ok (.iconst 1, 1) := by decide +kernel
theorem dX6_mean_89 : decode cX6_mean 89 = .ok (.invokevirtual 81, 3) := by decide +kernel
theorem dX6_mean_92 : decode cX6_mean 92 = .ok (.ireturn, 1) := by decide +kernel
theorem dX6_text_0 : decode cX6_text 0 = .ok (.iload_n 1, 1) := by decide +kernel
theorem dX6_text_1 : decode cX6_text 1 = .ok (.invokestatic 88, 3) := by decide +kernel
theorem dX6_text_4 : decode cX6_text 4 = .ok (.ifCond .eq 9, 3) := by decide +kernel
theorem dX6_text_7 : decode cX6_text 7 = .ok (.iload_n 2, 1) := by decide +kernel
theorem dX6_text_8 : decode cX6_text 8 = .ok (.bipush 60, 2) := by decide +kernel
theorem dX6_text_10 : decode cX6_text 10 = .ok (.if_icmp .le 5, 3) := by decide +kernel
theorem dX6_text_13 : decode cX6_text 13 = .ok (.iconst (-1), 1) := by decide +kernel
theorem dX6_text_14 : decode cX6_text 14 = .ok (.ireturn, 1) := by decide +kernel
theorem dX6_text_15 : decode cX6_text 15 = .ok (.iload_n 2, 1) := by decide +kernel
theorem dX6_text_16 : decode cX6_text 16 = .ok (.ifCond .ge 9, 3) := by decide +kernel
theorem dX6_text_19 : decode cX6_text 19 = .ok (.aload_n 0, 1) := by decide +kernel
theorem dX6_text_20 : decode cX6_text 20 = .ok (.iconst 5, 1) := by decide +kernel
theorem dX6_text_21 : decode cX6_text 21 = .ok (.invokevirtual 73, 3) := by decide +kernel
theorem dX6_text_24 : decode cX6_text 24 = .ok (.ireturn, 1) := by decide +kernel
theorem dX6_text_25 : decode cX6_text 25 = .ok (.aload_n 0, 1) := by decide +kernel
theorem dX6_text_26 : decode cX6_text 26 = .ok (.getfield 25, 3) := by decide +kernel
theorem dX6_text_29 : decode cX6_text 29 = .ok (.iload_n 1, 1) := by decide +kernel
theorem dX6_text_30 : decode cX6_text 30 = .ok (.iload_n 2, 1) := by decide +kernel
theorem dX6_text_31 : decode cX6_text 31 = .ok (.iastore, 1) := by decide +kernel
theorem dX6_text_32 : decode cX6_text 32 = .ok (.iconst 0, 1) := by decide +kernel
theorem dX6_text_33 : decode cX6_text 33 = .ok (.istore_n 3, 1) := by decide +kernel
theorem dX6_text_34 : decode cX6_text 34 = .ok (.iload_n 3, 1) := by decide +kernel
theorem dX6_text_35 : decode cX6_text 35 = .ok (.bipush 60, 2) := by decide +kernel
theorem dX6_text_37 : decode cX6_text 37 = .ok (.if_icmp .ge 22, 3) := by decide +kernel
theorem dX6_text_40 : decode cX6_text 40 = .ok (.aload_n 0, 1) := by decide +kernel
theorem dX6_text_41 : decode cX6_text 41 = .ok (.getfield 22, 3) := by decide +kernel
theorem dX6_text_44 : decode cX6_text 44 = .ok (.bipush 60, 2) := by decide +kernel
theorem dX6_text_46 : decode cX6_text 46 = .ok (.iload_n 1, 1) := by decide +kernel
theorem dX6_text_47 : decode cX6_text 47 = .ok (.imul, 1) := by decide +kernel
theorem dX6_text_48 : decode cX6_text 48 = .ok (.iload_n 3, 1) := by decide +kernel
theorem dX6_text_49 : decode cX6_text 49 = .ok (.iadd, 1) := by decide +kernel
theorem dX6_text_50 : decode cX6_text 50 = .ok (.bipush 32, 2) := by decide +kernel
theorem dX6_text_52 : decode cX6_text 52 = .ok (.iastore, 1) := by decide +kernel
theorem dX6_text_53 : decode cX6_text 53 = .ok (.iinc 3 1, 3) := by decide +kernel
theorem dX6_text_56 : decode cX6_text 56 = .ok (.goto (-22), 3) := by decide +kernel
theorem dX6_text_59 : decode cX6_text 59 = .ok (.iload_n 2, 1) := by decide +kernel
theorem dX6_text_60 : decode cX6_text 60 = .ok (.ireturn, 1) := by decide +kernel
theorem dX6_put_0 : decode cX6_put 0 = .ok (.iload_n 1, 1) := by decide +kernel
theorem dX6_put_1 : decode cX6_put 1 = .ok (.invokestatic 88, 3) := by decide +kernel
theorem dX6_put_4 : decode cX6_put 4 = .ok (.ifCond .ne 5, 3) := by decide +kernel
theorem dX6_put_7 : decode cX6_put 7 = .ok (.iconst (-1), 1) := by decide +kernel
theorem dX6_put_8 : decode cX6_put 8 = .ok (.ireturn, 1) := by decide +kernel
theorem dX6_put_9 : decode cX6_put 9 = .ok (.aload_n 0, 1) := by decide +kernel
theorem dX6_put_10 : decode cX6_put 10 = .ok (.getfield 25, 3) := by decide +kernel
theorem dX6_put_13 : decode cX6_put 13 = .ok (.iload_n 1, 1) := by decide +kernel
theorem dX6_put_14 : decode cX6_put 14 = .ok (.iaload, 1) := by decide +kernel
theorem dX6_put_15 : decode cX6_put 15 = .ok (.ifCond .ge 9, 3) := by decide +kernel
theorem dX6_put_18 : decode cX6_put 18 = .ok (.aload_n 0, 1) := by decide +kernel
theorem dX6_put_19 : decode cX6_put 19 = .ok (.iconst 1, 1) := by decide +kernel
theorem dX6_put_20 : decode cX6_put 20 = .ok (.invokevirtual 73, 3) := by decide +kernel
theorem dX6_put_23 : decode cX6_put 23 = .ok (.ireturn, 1) := by decide +kernel
theorem dX6_put_24 : decode cX6_put 24 = .ok (.iload_n 2, 1) := by decide +kernel
theorem dX6_put_25 : decode cX6_put 25 = .ok (.i2l, 1) := by decide +kernel
theorem dX6_put_26 : decode cX6_put 26 = .ok (.lconst 0, 1) := by decide +kernel
theorem dX6_put_27 : decode cX6_put 27 = .ok (.aload_n 0, 1) := by decide +kernel
theorem dX6_put_28 : decode cX6_put 28 = .ok (.getfield 25, 3) := by decide +kernel
theorem dX6_put_31 : decode cX6_put 31 = .ok (.iload_n 1, 1) := by decide +kernel
theorem dX6_put_32 : decode cX6_put 32 = .ok (.iaload, 1) := by decide +kernel
theorem dX6_put_33 : decode cX6_put 33 = .ok (.iconst 1, 1) := by decide +kernel
theorem dX6_put_34 : decode cX6_put 34 = .ok (.isub, 1) := by decide +kernel
theorem dX6_put_35 : decode cX6_put 35 = .ok (.i2l, 1) := by decide +kernel
theorem dX6_put_36 : decode cX6_put 36 = .ok (.invokestatic 63, 3) := by decide +kernel
theorem dX6_put_39 : decode cX6_put 39 = .ok (.ifCond .ne 9, 3) := by decide +kernel
theorem dX6_put_42 : decode cX6_put 42 = .ok (.aload_n 0, 1) := by decide +kernel
theorem dX6_put_43 : decode cX6_put 43 = .ok (.iconst 2, 1) := by decide +kernel
theorem dX6_put_44 : decode cX6_put 44 = .ok (.invokevirtual 73, 3) := by decide +kernel
theorem dX6_put_47 : decode cX6_put 47 = .ok (.ireturn, 1) := by decide +kernel
theorem dX6_put_48 : decode cX6_put 48 = .ok (.aload_n 0, 1) := by decide +kernel
theorem dX6_put_49 : decode cX6_put 49 = .ok (.getfield 22, 3) := by decide +kernel
theorem dX6_put_52 : decode cX6_put 52 = .ok (.bipush 60, 2) := by decide +kernel
theorem dX6_put_54 : decode cX6_put 54 = .ok (.iload_n 1, 1) := by decide +kernel
theorem dX6_put_55 : decode cX6_put 55 = .ok (.imul, 1) := by decide +kernel
theorem dX6_put_56 : decode cX6_put 56 = .ok (.iload_n 2, 1) := by decide +kernel
theorem dX6_put_57 : decode cX6_put 57 = .ok (.iadd, 1) := by decide +kernel
theorem dX6_put_58 : decode cX6_put 58 = .ok (.iaload, 1) := by decide +kernel
theorem dX6_put_59 : decode cX6_put 59 = .ok (.istore 4, 2) := by decide +kernel
theorem dX6_put_61 : decode cX6_put 61 = .ok (.aload_n 0, 1) := by decide +kernel
theorem dX6_put_62 : decode cX6_put 62 = .ok (.getfield 22, 3) := by decide +kernel
theorem dX6_put_65 : decode cX6_put 65 = .ok (.bipush 60, 2) := by decide +kernel
theorem dX6_put_67 : decode cX6_put 67 = .ok (.iload_n 1, 1) := by decide +kernel
theorem dX6_put_68 : decode cX6_put 68 = .ok (.imul, 1) := by decide +kernel
theorem dX6_put_69 : decode cX6_put 69 = .ok (.iload_n 2, 1) := by decide +kernel
theorem dX6_put_70 : decode cX6_put 70 = .ok (.iadd, 1) := by decide +kernel
theorem dX6_put_71 : decode cX6_put 71 = .ok (.iload_n 3, 1) := by decide +kernel
theorem dX6_put_72 : decode cX6_put 72 = .ok (.i2b, 1) := by decide +kernel
theorem dX6_put_73 : decode cX6_put 73 = .ok (.iastore, 1) := by decide +kernel
theorem dX6_put_74 : decode cX6_put 74 = .ok (.iload 4, 2) := by decide +kernel
theorem dX6_put_76 : decode cX6_put 76 = .ok (.sipush 1000, 3) := by decide +kernel
theorem dX6_put_79 : decode cX6_put 79 = .ok (.iadd, 1) := by decide +kernel
theorem dX6_put_80 : decode cX6_put 80 = .ok (.ireturn, 1) := by decide +kernel
theorem dX6_kindOf_0 : decode cX6_kindOf 0 = .ok (.iload_n 0, 1) := by decide +kernel
theorem dX6_kindOf_1 : decode cX6_kindOf 1 = .ok (.bipush 104, 2) := by decide +kernel
theorem dX6_kindOf_3 : decode cX6_kindOf 3 = .ok (.if_icmp .ne 7, 3) := by decide +kernel
theorem dX6_kindOf_6 : decode cX6_kindOf 6 = .ok (.iconst 0, 1) := by decide +kernel
theorem dX6_kindOf_7 : decode cX6_kindOf 7 = .ok (.goto 54, 3) := by decide +kernel
theorem dX6_kindOf_10 : decode cX6_kindOf 10 = .ok (.iload_n 0, 1) := by decide +kernel
theorem dX6_kindOf_11 : decode cX6_kindOf 11 = .ok (.bipush 103, 2) := by decide +kernel
theorem dX6_kindOf_13 : decode cX6_kindOf 13 = .ok (.if_icmp .ne 7, 3) := by decide +kernel
theorem dX6_kindOf_16 : decode cX6_kindOf 16 = .ok (.iconst 1, 1) := by decide +kernel
theorem dX6_kindOf_17 : decode cX6_kindOf 17 = .ok (.goto 44, 3) := by decide +kernel
theorem dX6_kindOf_20 : decode cX6_kindOf 20 = .ok (.iload_n 0, 1) := by decide +kernel
theorem dX6_kindOf_21 : decode cX6_kindOf 21 = .ok (.bipush 108, 2) := by decide +kernel
theorem dX6_kindOf_23 : decode cX6_kindOf 23 = .ok (.if_icmp .ne 7, 3) := by decide +kernel
theorem dX6_kindOf_26 : decode cX6_kindOf 26 = .ok (.iconst 2, 1) := by decide +kernel
theorem dX6_kindOf_27 : decode cX6_kindOf 27 = .ok (.goto 34, 3) := by decide +kernel
theorem dX6_kindOf_30 : decode cX6_kindOf 30 = .ok (.iload_n 0, 1) := by decide +kernel
theorem dX6_kindOf_31 : decode cX6_kindOf 31 = .ok (.bipush 97, 2) := by decide +kernel
theorem dX6_kindOf_33 : decode cX6_kindOf 33 = .ok (.if_icmp .ne 7, 3) := by decide +kernel
theorem dX6_kindOf_36 : decode cX6_kindOf 36 = .ok (.iconst 3, 1) := by decide +kernel
theorem dX6_kindOf_37 : decode cX6_kindOf 37 = .ok (.goto 24, 3) := by decide +kernel
theorem dX6_kindOf_40 : decode cX6_kindOf 40 = .ok (.iload_n 0, 1) := by decide +kernel
theorem dX6_kindOf_41 : decode cX6_kindOf 41 = .ok (.bipush 101, 2) := by decide +kernel
theorem dX6_kindOf_43 : decode cX6_kindOf 43 = .ok (.if_icmp .ne 7, 3) := by decide +kernel
theorem dX6_kindOf_46 : decode cX6_kindOf 46 = .ok (.iconst 4, 1) := by decide +kernel
theorem dX6_kindOf_47 : decode cX6_kindOf 47 = .ok (.goto 14, 3) := by decide +kernel
theorem dX6_kindOf_50 : decode cX6_kindOf 50 = .ok (.iload_n 0, 1) := by decide +kernel
theorem dX6_kindOf_51 : decode cX6_kindOf 51 = .ok (.bipush 109, 2) := by decide +kernel
theorem dX6_kindOf_53 : decode cX6_kindOf 53 = .ok (.if_icmp .ne 7, 3) := by decide +kernel
theorem dX6_kindOf_56 : decode cX6_kindOf 56 = .ok (.iconst 5, 1) := by decide +kernel
theorem dX6_kindOf_57 : decode cX6_kindOf 57 = .ok (.goto 4, 3) := by decide +kernel
theorem dX6_kindOf_60 : decode cX6_kindOf 60 = .ok (.iconst (-1), 1) := by decide +kernel
theorem dX6_kindOf_61 : decode cX6_kindOf 61 = .ok (.ireturn, 1) := by decide +kernel
theorem dX6_housesOf_0 : decode cX6_housesOf 0 = .ok (.iconst 0, 1) := by decide +kernel
theorem dX6_housesOf_1 : decode cX6_housesOf 1 = .ok (.istore_n 2, 1) := by decide +kernel
theorem dX6_housesOf_2 : decode cX6_housesOf 2 = .ok (.iconst 0, 1) := by decide +kernel
theorem dX6_housesOf_3 : decode cX6_housesOf 3 = .ok (.istore_n 3, 1) := by decide +kernel
theorem dX6_housesOf_4 : decode cX6_housesOf 4 = .ok (.iload_n 3, 1) := by decide +kernel
theorem dX6_housesOf_5 : decode cX6_housesOf 5 = .ok (.aload_n 0, 1) := by decide +kernel
theorem dX6_housesOf_6 : decode cX6_housesOf 6 = .ok (.getfield 7, 3) := by decide +kernel
theorem dX6_housesOf_9 : decode cX6_housesOf 9 = .ok (.iload_n 1, 1) := by decide +kernel
theorem dX6_housesOf_10 : decode cX6_housesOf 10 = .ok (.iconst 0, 1) := by decide +kernel
theorem dX6_housesOf_11 : decode cX6_housesOf 11 = .ok (.iadd, 1) := by decide +kernel
theorem dX6_housesOf_12 : decode cX6_housesOf 12 = .ok (.iaload, 1) := by decide +kernel
theorem dX6_housesOf_13 : decode cX6_housesOf 13 = .ok (.if_icmp .ge 22, 3) := by decide +kernel
theorem dX6_housesOf_16 : decode cX6_housesOf 16 = .ok (.iload_n 2, 1) := by decide +kernel
theorem dX6_housesOf_17 : decode cX6_housesOf 17 = .ok (.aload_n 0, 1) := by decide +kernel
theorem dX6_housesOf_18 : decode cX6_housesOf 18 = .ok (.getfield 7, 3) := by decide +kernel
theorem dX6_housesOf_21 : decode cX6_housesOf 21 = .ok (.iload_n 1, 1) := by decide +kernel
theorem dX6_housesOf_22 : decode cX6_housesOf 22 = .ok (.iconst 1, 1) := by decide +kernel
theorem dX6_housesOf_23 : decode cX6_housesOf 23 = .ok (.iadd, 1) := by decide +kernel
theorem dX6_housesOf_24 : decode cX6_housesOf 24 = .ok (.iload_n 3, 1) := by decide +kernel
theorem dX6_housesOf_25 : decode cX6_housesOf 25 = .ok (.iadd, 1) := by decide +kernel
theorem dX6_housesOf_26 : decode cX6_housesOf 26 = .ok (.iaload, 1) := by decide +kernel
theorem dX6_housesOf_27 : decode cX6_housesOf 27 = .ok (.iadd, 1) := by decide +kernel
theorem dX6_housesOf_28 : decode cX6_housesOf 28 = .ok (.istore_n 2, 1) := by decide +kernel
theorem dX6_housesOf_29 : decode cX6_housesOf 29 = .ok (.iinc 3 1, 3) := by decide +kernel
theorem dX6_housesOf_32 : decode cX6_housesOf 32 = .ok (.goto (-28), 3) := by decide +kernel
theorem dX6_housesOf_35 : decode cX6_housesOf 35 = .ok (.iload_n 2, 1) := by decide +kernel
theorem dX6_housesOf_36 : decode cX6_housesOf 36 = .ok (.ireturn, 1) := by decide +kernel
theorem dX6_byteAt_0 : decode cX6_byteAt 0 = .ok (.iload_n 2, 1) := by decide +kernel
theorem dX6_byteAt_1 : decode cX6_byteAt 1 = .ok (.aload_n 0, 1) := by decide +kernel
theorem dX6_byteAt_2 : decode cX6_byteAt 2 = .ok (.getfield 25, 3) := by decide +kernel
theorem dX6_byteAt_5 : decode cX6_byteAt 5 = .ok (.iload_n 1, 1) := by decide +kernel
theorem dX6_byteAt_6 : decode cX6_byteAt 6 = .ok (.iaload, 1) := by decide +kernel
theorem dX6_byteAt_7 : decode cX6_byteAt 7 = .ok (.if_icmp .ge 17, 3) := by decide +kernel
theorem dX6_byteAt_10 : decode cX6_byteAt 10 = .ok (.aload_n 0, 1) := by decide +kernel
theorem dX6_byteAt_11 : decode cX6_byteAt 11 = .ok (.getfield 22, 3) := by decide +kernel
theorem dX6_byteAt_14 : decode cX6_byteAt 14 = .ok (.bipush 60, 2) := by decide +kernel
theorem dX6_byteAt_16 : decode cX6_byteAt 16 = .ok (.iload_n 1, 1) := by decide +kernel
theorem dX6_byteAt_17 : decode cX6_byteAt 17 = .ok (.imul, 1) := by decide +kernel
theorem dX6_byteAt_18 : decode cX6_byteAt 18 = .ok (.iload_n 2, 1) := by decide +kernel
theorem dX6_byteAt_19 : decode cX6_byteAt 19 = .ok (.iadd, 1) := by decide +kernel
theorem dX6_byteAt_20 : decode cX6_byteAt 20 = .ok (.iaload, 1) := by decide +kernel
theorem dX6_byteAt_21 : decode cX6_byteAt 21 = .ok (.goto 6, 3) := by decide +kernel
theorem dX6_byteAt_24 : decode cX6_byteAt 24 = .ok (.sipush (-1000), 3) := by decide +kernel
theorem dX6_byteAt_27 : decode cX6_byteAt 27 = .ok (.ireturn, 1) := by decide +kernel
theorem dX6_faultOf_0 : decode cX6_faultOf 0 = .ok (.iconst 0, 1) := by decide +kernel
theorem dX6_faultOf_1 : decode cX6_faultOf 1 = .ok (.istore_n 2, 1) := by decide +kernel
theorem dX6_faultOf_2 : decode cX6_faultOf 2 = .ok (.iload_n 2, 1) := by decide +kernel
theorem dX6_faultOf_3 : decode cX6_faultOf 3 = .ok (.bipush 66, 2) := by decide +kernel
theorem dX6_faultOf_5 : decode cX6_faultOf 5 = .ok (.if_icmp .ge 20, 3) := by decide +kernel
theorem dX6_faultOf_8 : decode cX6_faultOf 8 = .ok (.aload_n 0, 1) := by decide +kernel
theorem dX6_faultOf_9 : decode cX6_faultOf 9 = .ok (.getfield 7, 3) := by decide +kernel
theorem dX6_faultOf_12 : decode cX6_faultOf 12 = .ok (.sipush 10824, 3) := by decide +kernel
theorem dX6_faultOf_15 : decode cX6_faultOf 15 = .ok (.iload_n 2, 1) := by decide +kernel
theorem dX6_faultOf_16 : decode cX6_faultOf 16 = .ok (.iadd, 1) := by decide +kernel
theorem dX6_faultOf_17 : decode cX6_faultOf 17 = .ok (.iconst 0, 1) := by decide +kernel
theorem dX6_faultOf_18 : decode cX6_faultOf 18 = .ok (.iastore, 1) := by decide +kernel
theorem dX6_faultOf_19 : decode cX6_faultOf 19 = .ok (.iinc 2 1, 3) := by decide +kernel
theorem dX6_faultOf_22 : decode cX6_faultOf 22 = .ok (.goto (-20), 3) := by decide +kernel
theorem dX6_faultOf_25 : decode cX6_faultOf 25 = .ok (.iconst 0, 1) := by decide +kernel
theorem dX6_faultOf_26 : decode cX6_faultOf 26 = .ok (.istore_n 2, 1) := by decide +kernel
theorem dX6_faultOf_27 : decode cX6_faultOf 27 = .ok (.iload_n 2, 1) := by decide +kernel
theorem dX6_faultOf_28 : decode cX6_faultOf 28 = .ok (.aload_n 0, 1) := by decide +kernel
theorem dX6_faultOf_29 : decode cX6_faultOf 29 = .ok (.getfield 25, 3) := by decide +kernel
theorem dX6_faultOf_32 : decode cX6_faultOf 32 = .ok (.iload_n 1, 1) := by decide +kernel
theorem dX6_faultOf_33 : decode cX6_faultOf 33 = .ok (.iaload, 1) := by decide +kernel
theorem dX6_faultOf_34 : decode cX6_faultOf 34 = .ok (.if_icmp .ge 153, 3) := by decide +kernel
theorem dX6_faultOf_37 : decode cX6_faultOf 37 = .ok (.aload_n 0, 1) := by decide +kernel
theorem dX6_faultOf_38 : decode cX6_faultOf 38 = .ok (.iload_n 1, 1) := by decide +kernel
theorem dX6_faultOf_39 : decode cX6_faultOf 39 = .ok (.iload_n 2, 1) := by decide +kernel
theorem dX6_faultOf_40 : decode cX6_faultOf 40 = .ok (.invokevirtual 91, 3) := by decide +kernel
theorem dX6_faultOf_43 : decode cX6_faultOf 43 = .ok (.istore_n 3, 1) := by decide +kernel
theorem dX6_faultOf_44 : decode cX6_faultOf 44 = .ok (.iload_n 3, 1) := by decide +kernel
theorem dX6_faultOf_45 : decode cX6_faultOf 45 = .ok (.invokestatic 94, 3) := by decide +kernel
theorem dX6_faultOf_48 : decode cX6_faultOf 48 = .ok (.istore 4, 2) := by decide +kernel
theorem dX6_faultOf_50 : decode cX6_faultOf 50 = .ok (.aload_n 0, 1) := by decide +kernel
theorem dX6_faultOf_51 : decode cX6_faultOf 51 = .ok (.getfield 7, 3) := by decide +kernel
theorem dX6_faultOf_54 : decode cX6_faultOf 54 = .ok (.sipush 10824, 3) := by decide +kernel
theorem dX6_faultOf_57 : decode cX6_faultOf 57 = .ok (.iaload, 1) := by decide +kernel
theorem dX6_faultOf_58 : decode cX6_faultOf 58 = .ok (.iconst 1, 1) := by decide +kernel
theorem dX6_faultOf_59 : decode cX6_faultOf 59 = .ok (.isub, 1) := by decide +kernel
theorem dX6_faultOf_60 : decode cX6_faultOf 60 = .ok (.istore 5, 2) := by decide +kernel
theorem dX6_faultOf_62 : decode cX6_faultOf 62 = .ok (.iload_n 3, 1) := by decide +kernel
theorem dX6_faultOf_63 : decode cX6_faultOf 63 = .ok (.bipush 114, 2) := by decide +kernel
theorem dX6_faultOf_65 : decode cX6_faultOf 65 = .ok (.if_icmp .ne 26, 3) := by decide +kernel
theorem dX6_faultOf_68 : decode cX6_faultOf 68 = .ok (.iload 5, 2) := by decide +kernel
theorem dX6_faultOf_70 : decode cX6_faultOf 70 = .ok (.iconst 4, 1) := by decide +kernel
theorem dX6_faultOf_71 : decode cX6_faultOf 71 = .ok (.if_icmp .ne 5, 3) := by decide +kernel
theorem dX6_faultOf_74 : decode cX6_faultOf 74 = .ok (.iload_n 2, 1) := by decide +kernel
theorem dX6_faultOf_75 : decode cX6_faultOf 75 = .ok (.ireturn, 1) := by decide +kernel
theorem dX6_faultOf_76 : decode cX6_faultOf 76 = .ok (.aload_n 0, 1) := by decide +kernel
theorem dX6_faultOf_77 : decode cX6_faultOf 77 = .ok (.getfield 7, 3) := by decide +kernel
theorem dX6_faultOf_80 : decode cX6_faultOf 80 = .ok (.sipush 10824, 3) := by decide +kernel
theorem dX6_faultOf_83 : decode cX6_faultOf 83 = .ok (.dup2, 1) := by decide +kernel
theorem dX6_faultOf_84 : decode cX6_faultOf 84 = .ok (.iaload, 1) := by decide +kernel
theorem dX6_faultOf_85 : decode cX6_faultOf 85 = .ok (.iconst 1, 1) := by decide +kernel
theorem dX6_faultOf_86 : decode cX6_faultOf 86 = .ok (.iadd, 1) := by decide +kernel
theorem dX6_faultOf_87 : decode cX6_faultOf 87 = .ok (.iastore, 1) := by decide +kernel
theorem dX6_faultOf_88 : decode cX6_faultOf 88 = .ok (.goto 93, 3) := by decide +kernel
theorem dX6_faultOf_91 : decode cX6_faultOf 91 = .ok (.iload_n 3, 1) := by decide +kernel
theorem dX6_faultOf_92 : decode cX6_faultOf 92 = .ok (.bipush 32, 2) := by decide +kernel
theorem dX6_faultOf_94 : decode cX6_faultOf 94 = .ok (.if_icmp .eq 87, 3) := by decide +kernel
theorem dX6_faultOf_97 : decode cX6_faultOf 97 = .ok (.iload 4, 2) := by decide +kernel
theorem dX6_faultOf_99 : decode cX6_faultOf 99 = .ok (.ifCond .lt 36, 3) := by decide +kernel
theorem dX6_faultOf_102 : decode cX6_faultOf 102 = .ok (.iload 5, 2) := by decide +kernel
theorem dX6_faultOf_104 : decode cX6_faultOf 104 = .ok (.ifCond .lt 31, 3) := by decide +kernel
theorem dX6_faultOf_107 : decode cX6_faultOf 107 = .ok (.aload_n 0, 1) := by decide +kernel
theorem dX6_faultOf_108 : decode cX6_faultOf 108 = .ok (.getfield 7, 3) := by decide +kernel
theorem dX6_faultOf_111 : decode cX6_faultOf 111 = .ok (.sipush 10825, 3) := by decide +kernel
theorem dX6_faultOf_114 : decode cX6_faultOf 114 = .ok (.iload 5, 2) := by decide +kernel
theorem dX6_faultOf_116 : decode cX6_faultOf 116 = .ok (.iadd, 1) := by decide +kernel
theorem dX6_faultOf_117 : decode cX6_faultOf 117 = .ok (.iaload, 1) := by decide +kernel
theorem dX6_faultOf_118 : decode cX6_faultOf 118 = .ok (.bipush 6, 2) := by decide +kernel
theorem dX6_faultOf_120 : decode cX6_faultOf 120 = .ok (.if_icmp .eq 15, 3) := by decide +kernel
theorem dX6_faultOf_123 : decode cX6_faultOf 123 = .ok (.aload_n 0, 1) := by decide +kernel
theorem dX6_faultOf_124 : decode cX6_faultOf 124 = .ok (.sipush 10824, 3) := by decide +kernel
theorem dX6_faultOf_127 : decode cX6_faultOf 127 = .ok (.invokevirtual 97, 3) := by decide +kernel
theorem dX6_faultOf_130 : decode cX6_faultOf 130 = .ok (.bipush 12, 2) := by decide +kernel
theorem dX6_faultOf_132 : decode cX6_faultOf 132 = .ok (.if_icmp .ne 5, 3) := by decide +kernel
theorem dX6_faultOf_135 : decode cX6_faultOf 135 = .ok (.iload_n 2, 1) := by decide +kernel
theorem dX6_faultOf_136 : decode cX6_faultOf 136 = .ok (.ireturn, 1) := by decide +kernel
theorem dX6_faultOf_137 : decode cX6_faultOf 137 = .ok (.iinc 2 1, 3) := by decide +kernel
theorem dX6_faultOf_140 : decode cX6_faultOf 140 = .ok (.aload_n 0, 1) := by decide +kernel
theorem dX6_faultOf_141 : decode cX6_faultOf 141 = .ok (.iload_n 1, 1) := by decide +kernel
theorem dX6_faultOf_142 : decode cX6_faultOf 142 = .ok (.iload_n 2, 1) := by decide +kernel
theorem dX6_faultOf_143 : decode cX6_faultOf 143 = .ok (.invokevirtual 91, 3) := by decide +kernel
theorem dX6_faultOf_146 : decode cX6_faultOf 146 = .ok (.i2l, 1) := by decide +kernel
theorem dX6_faultOf_147 : decode cX6_faultOf 147 = .ok (.ldc2_w 100, 3) := by decide +kernel
theorem dX6_faultOf_150 : decode cX6_faultOf 150 = .ok (.ldc2_w 102, 3) := by decide +kernel
theorem dX6_faultOf_153 : decode cX6_faultOf 153 = .ok (.invokestatic 63, 3) := by decide +kernel
theorem dX6_faultOf_156 : decode cX6_faultOf 156 = .ok (.ifCond .ne 5, 3) := by decide +kernel
theorem dX6_faultOf_159 : decode cX6_faultOf 159 = .ok (.iload_n 2, 1) := by decide +kernel
theorem dX6_faultOf_160 : decode cX6_faultOf 160 = .ok (.ireturn, 1) := by decide +kernel
theorem dX6_faultOf_161 : decode cX6_faultOf 161 = .ok (.aload_n 0, 1) := by decide +kernel
theorem dX6_faultOf_162 : decode cX6_faultOf 162 = .ok (.sipush 10824, 3) := by decide +kernel
theorem dX6_faultOf_165 : decode cX6_faultOf 165 = .ok (.iload 5, 2) := by decide +kernel
theorem dX6_faultOf_167 : decode cX6_faultOf 167 = .ok (.iload 4, 2) := by decide +kernel
theorem dX6_faultOf_169 : decode cX6_faultOf 169 = .ok (.aload_n 0, 1) := by decide +kernel
theorem dX6_faultOf_170 : decode cX6_faultOf 170 = .ok (.iload_n 1, 1) := by decide +kernel
theorem dX6_faultOf_171 : decode cX6_faultOf 171 = .ok (.iload_n 2, 1) := by decide +kernel
theorem dX6_faultOf_172 : decode cX6_faultOf 172 = .ok (.invokevirtual 91, 3) := by decide +kernel
theorem dX6_faultOf_175 : decode cX6_faultOf 175 = .ok (.bipush 48, 2) := by decide +kernel
theorem dX6_faultOf_177 : decode cX6_faultOf 177 = .ok (.isub, 1) := by decide +kernel
theorem dX6_faultOf_178 : decode cX6_faultOf 178 = .ok (.invokevirtual 104, 3) := by decide +kernel
theorem dX6_faultOf_181 : decode cX6_faultOf 181 = .ok (.iinc 2 1, 3) := by decide +kernel
theorem dX6_faultOf_184 : decode cX6_faultOf 184 = .ok (.goto (-157), 3) := by decide +kernel
theorem dX6_faultOf_187 : decode cX6_faultOf 187 = .ok (.aload_n 0, 1) := by decide +kernel
theorem dX6_faultOf_188 : decode cX6_faultOf 188 = .ok (.getfield 7, 3) := by decide +kernel
theorem dX6_faultOf_191 : decode cX6_faultOf 191 = .ok (.sipush 10824, 3) := by decide +kernel
theorem dX6_faultOf_194 : decode cX6_faultOf 194 = .ok (.iaload, 1) := by decide +kernel
theorem dX6_faultOf_195 : decode cX6_faultOf 195 = .ok (.ifCond .ne 12, 3) := by decide +kernel
theorem dX6_faultOf_198 : decode cX6_faultOf 198 = .ok (.aload_n 0, 1) := by decide +kernel
theorem dX6_faultOf_199 : decode cX6_faultOf 199 = .ok (.getfield 25, 3) := by decide +kernel
theorem dX6_faultOf_202 : decode cX6_faultOf 202 = .ok (.iload_n 1, 1) := by decide +kernel
theorem dX6_faultOf_203 : decode cX6_faultOf 203 = .ok (.iaload, 1) := by decide +kernel
theorem dX6_faultOf_204 : decode cX6_faultOf 204 = .ok (.goto 5, 3) := by decide +kernel
theorem dX6_faultOf_207 : decode cX6_faultOf 207 = .ok (.bipush (-9), 2) := by decide +kernel
theorem dX6_faultOf_209 : decode cX6_faultOf 209 = .ok (.ireturn, 1) := by decide +kernel
theorem dX6_fault_0 : decode cX6_fault 0 = .ok (.iload_n 1, 1) := by decide +kernel
theorem dX6_fault_1 : decode cX6_fault 1 = .ok (.invokestatic 88, 3) := by decide +kernel
theorem dX6_fault_4 : decode cX6_fault 4 = .ok (.ifCond .ne 5, 3) := by decide +kernel
theorem dX6_fault_7 : decode cX6_fault 7 = .ok (.iconst (-1), 1) := by decide +kernel
theorem dX6_fault_8 : decode cX6_fault 8 = .ok (.ireturn, 1) := by decide +kernel
theorem dX6_fault_9 : decode cX6_fault 9 = .ok (.aload_n 0, 1) := by decide +kernel
theorem dX6_fault_10 : decode cX6_fault 10 = .ok (.getfield 25, 3) := by decide +kernel
theorem dX6_fault_13 : decode cX6_fault 13 = .ok (.iload_n 1, 1) := by decide +kernel
theorem dX6_fault_14 : decode cX6_fault 14 = .ok (.iaload, 1) := by decide +kernel
theorem dX6_fault_15 : decode cX6_fault 15 = .ok (.ifCond .ge 11, 3) := by decide +kernel
theorem dX6_fault_18 : decode cX6_fault 18 = .ok (.aload_n 0, 1) := by decide +kernel
theorem dX6_fault_19 : decode cX6_fault 19 = .ok (.iconst 1, 1) := by decide +kernel
theorem dX6_fault_20 : decode cX6_fault 20 = .ok (.invokevirtual 73, 3) := by decide +kernel
theorem dX6_fault_23 : decode cX6_fault 23 = .ok (.goto 8, 3) := by decide +kernel
theorem dX6_fault_26 : decode cX6_fault 26 = .ok (.aload_n 0, 1) := by decide +kernel
theorem dX6_fault_27 : decode cX6_fault 27 = .ok (.iload_n 1, 1) := by decide +kernel
theorem dX6_fault_28 : decode cX6_fault 28 = .ok (.invokevirtual 108, 3) := by decide +kernel
theorem dX6_fault_31 : decode cX6_fault 31 = .ok (.ireturn, 1) := by decide +kernel
theorem dX6_rock_0 : decode cX6_rock 0 = .ok (.iload_n 1, 1) := by decide +kernel
theorem dX6_rock_1 : decode cX6_rock 1 = .ok (.invokestatic 88, 3) := by decide +kernel
theorem dX6_rock_4 : decode cX6_rock 4 = .ok (.ifCond .ne 5, 3) := by decide +kernel
theorem dX6_rock_7 : decode cX6_rock 7 = .ok (.iconst (-1), 1) := by decide +kernel
theorem dX6_rock_8 : decode cX6_rock 8 = .ok (.ireturn, 1) := by decide +kernel
theorem dX6_rock_9 : decode cX6_rock 9 = .ok (.aload_n 0, 1) := by decide +kernel
theorem dX6_rock_10 : decode cX6_rock 10 = .ok (.getfield 25, 3) := by decide +kernel
theorem dX6_rock_13 : decode cX6_rock 13 = .ok (.iload_n 1, 1) := by decide +kernel
theorem dX6_rock_14 : decode cX6_rock 14 = .ok (.iaload, 1) := by decide +kernel
theorem dX6_rock_15 : decode cX6_rock 15 = .ok (.ifCond .ge 9, 3) := by decide +kernel
theorem dX6_rock_18 : decode cX6_rock 18 = .ok (.aload_n 0, 1) := by decide +kernel
theorem dX6_rock_19 : decode cX6_rock 19 = .ok (.iconst 1, 1) := by decide +kernel
theorem dX6_rock_20 : decode cX6_rock 20 = .ok (.invokevirtual 73, 3) := by decide +kernel
theorem dX6_rock_23 : decode cX6_rock 23 = .ok (.ireturn, 1) := by decide +kernel
theorem dX6_rock_24 : decode cX6_rock 24 = .ok (.aload_n 0, 1) := by decide +kernel
theorem dX6_rock_25 : decode cX6_rock 25 = .ok (.iload_n 1, 1) := by decide +kernel
theorem dX6_rock_26 : decode cX6_rock 26 = .ok (.invokevirtual 108, 3) := by decide +kernel
theorem dX6_rock_29 : decode cX6_rock 29 = .ok (.bipush (-9), 2) := by decide +kernel
theorem dX6_rock_31 : decode cX6_rock 31 = .ok (.if_icmp .eq 6, 3) := by decide +kernel
theorem dX6_rock_34 : decode cX6_rock 34 = .ok (.bipush (-4), 2) := by decide +kernel
theorem dX6_rock_36 : decode cX6_rock 36 = .ok (.ireturn, 1) := by decide +kernel
theorem dX6_rock_37 : decode cX6_rock 37 = .ok (.aload_n 0, 1) := by decide +kernel
theorem dX6_rock_38 : decode cX6_rock 38 = .ok (.sipush 10824, 3) := by decide +kernel
theorem dX6_rock_41 : decode cX6_rock 41 = .ok (.iconst 0, 1) := by decide +kernel
theorem dX6_rock_42 : decode cX6_rock 42 = .ok (.bipush 66, 2) := by decide +kernel
theorem dX6_rock_44 : decode cX6_rock 44 = .ok (.invokevirtual 111, 3) := by decide +kernel
theorem dX6_rock_47 : decode cX6_rock 47 = .ok (.aload_n 0, 1) := by decide +kernel
theorem dX6_rock_48 : decode cX6_rock 48 = .ok (.iconst 0, 1) := by decide +kernel
theorem dX6_rock_49 : decode cX6_rock 49 = .ok (.putfield 115, 3) := by decide +kernel
theorem dX6_rock_52 : decode cX6_rock 52 = .ok (.iconst 0, 1) := by decide +kernel
theorem dX6_rock_53 : decode cX6_rock 53 = .ok (.istore_n 2, 1) := by decide +kernel
theorem dX6_rock_54 : decode cX6_rock 54 = .ok (.iload_n 2, 1) := by decide +kernel
theorem dX6_rock_55 : decode cX6_rock 55 = .ok (.iconst 3, 1) := by decide +kernel
theorem dX6_rock_56 : decode cX6_rock 56 = .ok (.if_icmp .ge 16, 3) := by decide +kernel
theorem dX6_rock_59 : decode cX6_rock 59 = .ok (.aload_n 0, 1) := by decide +kernel
theorem dX6_rock_60 : decode cX6_rock 60 = .ok (.getfield 13, 3) := by decide +kernel
theorem dX6_rock_63 : decode cX6_rock 63 = .ok (.iload_n 2, 1) := by decide +kernel
theorem dX6_rock_64 : decode cX6_rock 64 = .ok (.iconst (-1), 1) := by decide +kernel
theorem dX6_rock_65 : decode cX6_rock 65 = .ok (.iastore, 1) := by decide +kernel
theorem dX6_rock_66 : decode cX6_rock 66 = .ok (.iinc 2 1, 3) := by decide +kernel
theorem dX6_rock_69 : decode cX6_rock 69 = .ok (.goto (-15), 3) := by decide +kernel
theorem dX6_rock_72 : decode cX6_rock 72 = .ok (.aload_n 0, 1) := by decide +kernel
theorem dX6_rock_73 : decode cX6_rock 73 = .ok (.getfield 7, 3) := by decide +kernel
theorem dX6_rock_76 : decode cX6_rock 76 = .ok (.iconst 0, 1) := by decide +kernel
theorem dX6_rock_77 : decode cX6_rock 77 = .ok (.iaload, 1) := by decide +kernel
theorem dX6_rock_78 : decode cX6_rock 78 = .ok (.ireturn, 1) := by decide +kernel
theorem dX6_isTower_0 : decode cX6_isTower 0 = .ok (.iload_n 1, 1) := by decide +kernel
theorem dX6_isTower_1 : decode cX6_isTower 1 = .ok (.i2l, 1) := by decide +kernel
theorem dX6_isTower_2 : decode cX6_isTower 2 = .ok (.lconst 0, 1) := by decide +kernel
theorem dX6_isTower_3 : decode cX6_isTower 3 = .ok (.aload_n 0, 1) := by decide +kernel
theorem dX6_isTower_4 : decode cX6_isTower 4 = .ok (.getfield 7, 3) := by decide +kernel
theorem dX6_isTower_7 : decode cX6_isTower 7 = .ok (.iconst 0, 1) := by decide +kernel
theorem dX6_isTower_8 : decode cX6_isTower 8 = .ok (.iaload, 1) := by decide +kernel
theorem dX6_isTower_9 : decode cX6_isTower 9 = .ok (.iconst 1, 1) := by decide +kernel
theorem dX6_isTower_10 : decode cX6_isTower 10 = .ok (.isub, 1) := by decide +kernel
theorem dX6_isTower_11 : decode cX6_isTower 11 = .ok (.i2l, 1) := by decide +kernel
theorem dX6_isTower_12 : decode cX6_isTower 12 = .ok (.invokestatic 63, 3) := by decide +kernel
theorem dX6_isTower_15 : decode cX6_isTower 15 = .ok (.ireturn, 1) := by decide +kernel
theorem dX6_isNone_0 : decode cX6_isNone 0 = .ok (.aload_n 0, 1) := by decide +kernel
theorem dX6_isNone_1 : decode cX6_isNone 1 = .ok (.getfield 7, 3) := by decide +kernel
theorem dX6_isNone_4 : decode cX6_isNone 4 = .ok (.iconst 0, 1) := by decide +kernel
theorem dX6_isNone_5 : decode cX6_isNone 5 = .ok (.iaload, 1) := by decide +kernel
theorem dX6_isNone_6 : decode cX6_isNone 6 = .ok (.ifCond .ne 7, 3) := by decide +kernel
theorem dX6_isNone_9 : decode cX6_isNone 9 = .ok (.iconst 1, 1) := by decide +kernel
theorem dX6_isNone_10 : decode cX6_isNone 10 = .ok (.goto 4, 3) := by decide +kernel
theorem dX6_isNone_13 : decode cX6_isNone 13 = .ok (.iconst 0, 1) := by decide +kernel
theorem dX6_isNone_14 : decode cX6_isNone 14 = .ok (.ireturn, 1) := by decide +kernel
theorem dX6_houses_0 : decode cX6_houses 0 = .ok (.aload_n 0, 1) := by decide +kernel
theorem dX6_houses_1 : decode cX6_houses 1 = .ok (.iconst 0, 1) := by decide +kernel
theorem dX6_houses_2 : decode cX6_houses 2 = .ok (.invokevirtual 97, 3) := by decide +kernel
theorem dX6_houses_5 : decode cX6_houses 5 = .ok (.ireturn, 1) := by decide +kernel
theorem dX6_isTold_0 : decode cX6_isTold 0 = .ok (.aload_n 0, 1) := by decide +kernel
theorem dX6_isTold_1 : decode cX6_isTold 1 = .ok (.iload_n 1, 1) := by decide +kernel
theorem dX6_isTold_2 : decode cX6_isTold 2 = .ok (.invokevirtual 118, 3) := by decide +kernel
theorem dX6_isTold_5 : decode cX6_isTold 5 = .ok (.ifCond .eq 11, 3) := by decide +kernel
theorem dX6_isTold_8 : decode cX6_isTold 8 = .ok (.iload_n 2, 1) := by decide +kernel
theorem dX6_isTold_9 : decode cX6_isTold 9 = .ok (.ifCond .lt 7, 3) := by decide +kernel
theorem dX6_isTold_12 : decode cX6_isTold 12 = .ok (.iconst 1, 1) := by decide +kernel
theorem dX6_isTold_13 : decode cX6_isTold 13 = .ok (.goto 4, 3) := by decide +kernel
theorem dX6_isTold_16 : decode cX6_isTold 16 = .ok (.iconst 0, 1) := by decide +kernel
theorem dX6_isTold_17 : decode cX6_isTold 17 = .ok (.ireturn, 1) := by decide +kernel
theorem dX6_isThere_0 : decode cX6_isThere 0 = .ok (.iload_n 1, 1) := by decide +kernel
theorem dX6_isThere_1 : decode cX6_isThere 1 = .ok (.ifCond .lt 33, 3) := by decide +kernel
theorem dX6_isThere_4 : decode cX6_isThere 4 = .ok (.iload_n 1, 1) := by decide +kernel
theorem dX6_isThere_5 : decode cX6_isThere 5 = .ok (.aload_n 0, 1) := by decide +kernel
theorem dX6_isThere_6 : decode cX6_isThere 6 = .ok (.getfield 7, 3) := by decide +kernel
theorem dX6_isThere_9 : decode cX6_isThere 9 = .ok (.iconst 0, 1) := by decide +kernel
theorem dX6_isThere_10 : decode cX6_isThere 10 = .ok (.iaload, 1) := by decide +kernel
theorem dX6_isThere_11 : decode cX6_isThere 11 = .ok (.if_icmp .ge 23, 3) := by decide +kernel
theorem dX6_isThere_14 : decode cX6_isThere 14 = .ok (.iload_n 2, 1) := by decide +kernel
theorem dX6_isThere_15 : decode cX6_isThere 15 = .ok (.ifCond .lt 19, 3) := by decide +kernel
theorem dX6_isThere_18 : decode cX6_isThere 18 = .ok (.iload_n 2, 1) := by decide +kernel
theorem dX6_isThere_19 : decode cX6_isThere 19 = .ok (.aload_n 0, 1) := by decide +kernel
theorem dX6_isThere_20 : decode cX6_isThere 20 = .ok (.getfield 7, 3) := by decide +kernel
theorem dX6_isThere_23 : decode cX6_isThere 23 = .ok (.iconst 1, 1) := by decide +kernel
theorem dX6_isThere_24 : decode cX6_isThere 24 = .ok (.iload_n 1, 1) := by decide +kernel
theorem dX6_isThere_25 : decode cX6_isThere 25 = .ok (.iadd, 1) := by decide +kernel
theorem dX6_isThere_26 : decode cX6_isThere 26 = .ok (.iaload, 1) := by decide +kernel
theorem dX6_isThere_27 : decode cX6_isThere 27 = .ok (.if_icmp .ge 7, 3) := by decide +kernel
theorem dX6_isThere_30 : decode cX6_isThere 30 = .ok (.iconst 1, 1) := by decide +kernel
theorem dX6_isThere_31 : decode cX6_isThere 31 = .ok (.goto 4, 3) := by decide +kernel
theorem dX6_isThere_34 : decode cX6_isThere 34 = .ok (.iconst 0, 1) := by decide +kernel
theorem dX6_isThere_35 : decode cX6_isThere 35 = .ok (.ireturn, 1) := by decide +kernel
theorem dX6_kindAt_0 : decode cX6_kindAt 0 = .ok (.aload_n 0, 1) := by decide +kernel
theorem dX6_kindAt_1 : decode cX6_kindAt 1 = .ok (.getfield 7, 3) := by decide +kernel
theorem dX6_kindAt_4 : decode cX6_kindAt 4 = .ok (.bipush 6, 2) := by decide +kernel
theorem dX6_kindAt_6 : decode cX6_kindAt 6 = .ok (.bipush 6, 2) := by decide +kernel
theorem dX6_kindAt_8 : decode cX6_kindAt 8 = .ok (.iload_n 1, 1) := by decide +kernel
theorem dX6_kindAt_9 : decode cX6_kindAt 9 = .ok (.imul, 1) := by decide +kernel
theorem dX6_kindAt_10 : decode cX6_kindAt 10 = .ok (.iadd, 1) := by decide +kernel
theorem dX6_kindAt_11 : decode cX6_kindAt 11 = .ok (.iload_n 2, 1) := by decide +kernel
theorem dX6_kindAt_12 : decode cX6_kindAt 12 = .ok (.iadd, 1) := by decide +kernel
theorem dX6_kindAt_13 : decode cX6_kindAt 13 = .ok (.iaload, 1) := by decide +kernel
theorem dX6_kindAt_14 : decode cX6_kindAt 14 = .ok (.ireturn, 1) := by decide +kernel
theorem dX6_bearsAt_0 : decode cX6_bearsAt 0 = .ok (.aload_n 0, 1) := by decide +kernel
theorem dX6_bearsAt_1 : decode cX6_bearsAt 1 = .ok (.getfield 7, 3) := by decide +kernel
theorem dX6_bearsAt_4 : decode cX6_bearsAt 4 = .ok (.bipush 36, 2) := by decide +kernel
theorem dX6_bearsAt_6 : decode cX6_bearsAt 6 = .ok (.bipush 6, 2) := by decide +kernel
theorem dX6_bearsAt_8 : decode cX6_bearsAt 8 = .ok (.iload_n 1, 1) := by decide +kernel
theorem dX6_bearsAt_9 : decode cX6_bearsAt 9 = .ok (.imul, 1) := by decide +kernel
theorem dX6_bearsAt_10 : decode cX6_bearsAt 10 = .ok (.iadd, 1) := by decide +kernel
theorem dX6_bearsAt_11 : decode cX6_bearsAt 11 = .ok (.iload_n 2, 1) := by decide +kernel
theorem dX6_bearsAt_12 : decode cX6_bearsAt 12 = .ok (.iadd, 1) := by decide +kernel
theorem dX6_bearsAt_13 : decode cX6_bearsAt 13 = .ok (.iaload, 1) := by decide +kernel
theorem dX6_bearsAt_14 : decode cX6_bearsAt 14 = .ok (.ireturn, 1) := by decide +kernel
theorem dX6_adds_0 : decode cX6_adds 0 = .ok (.aload_n 0, 1) := by decide +kernel
theorem dX6_adds_1 : decode cX6_adds 1 = .ok (.getfield 7, 3) := by decide +kernel
theorem dX6_adds_4 : decode cX6_adds 4 = .ok (.iload_n 1, 1) := by decide +kernel
theorem dX6_adds_5 : decode cX6_adds 5 = .ok (.iconst 1, 1) := by decide +kernel
theorem dX6_adds_6 : decode cX6_adds 6 = .ok (.iadd, 1) := by decide +kernel
theorem dX6_adds_7 : decode cX6_adds 7 = .ok (.iload_n 2, 1) := by decide +kernel
theorem dX6_adds_8 : decode cX6_adds 8 = .ok (.iadd, 1) := by decide +kernel
theorem dX6_adds_9 : decode cX6_adds 9 = .ok (.iaload, 1) := by decide +kernel
theorem dX6_adds_10 : decode cX6_adds 10 = .ok (.istore 5, 2) := by decide +kernel
theorem dX6_adds_12 : decode cX6_adds 12 = .ok (.aload_n 0, 1) := by decide +kernel
theorem dX6_adds_13 : decode cX6_adds 13 = .ok (.getfield 7, 3) := by decide +kernel
theorem dX6_adds_16 : decode cX6_adds 16 = .ok (.iload_n 1, 1) := by decide +kernel
theorem dX6_adds_17 : decode cX6_adds 17 = .ok (.bipush 6, 2) := by decide +kernel
theorem dX6_adds_19 : decode cX6_adds 19 = .ok (.iadd, 1) := by decide +kernel
theorem dX6_adds_20 : decode cX6_adds 20 = .ok (.bipush 6, 2) := by decide +kernel
theorem dX6_adds_22 : decode cX6_adds 22 = .ok (.iload_n 2, 1) := by decide +kernel
theorem dX6_adds_23 : decode cX6_adds 23 = .ok (.imul, 1) := by decide +kernel
theorem dX6_adds_24 : decode cX6_adds 24 = .ok (.iadd, 1) := by decide +kernel
theorem dX6_adds_25 : decode cX6_adds 25 = .ok (.iload 5, 2) := by decide +kernel
theorem dX6_adds_27 : decode cX6_adds 27 = .ok (.iadd, 1) := by decide +kernel
theorem dX6_adds_28 : decode cX6_adds 28 = .ok (.iload_n 3, 1) := by decide +kernel
theorem dX6_adds_29 : decode cX6_adds 29 = .ok (.iastore, 1) := by decide +kernel
theorem dX6_adds_30 : decode cX6_adds 30 = .ok (.aload_n 0, 1) := by decide +kernel
theorem dX6_adds_31 : decode cX6_adds 31 = .ok (.getfield 7, 3) := by decide +kernel
theorem dX6_adds_34 : decode cX6_adds 34 = .ok (.iload_n 1, 1) := by decide +kernel
theorem dX6_adds_35 : decode cX6_adds 35 = .ok (.bipush 36, 2) := by decide +kernel
theorem dX6_adds_37 : decode cX6_adds 37 = .ok (.iadd, 1) := by decide +kernel
theorem dX6_adds_38 : decode cX6_adds 38 = .ok (.bipush 6, 2) := by decide +kernel
theorem dX6_adds_40 : decode cX6_adds 40 = .ok (.iload_n 2, 1) := by decide +kernel
theorem dX6_adds_41 : decode cX6_adds 41 = .ok (.imul, 1) := by decide +kernel
theorem dX6_adds_42 : decode cX6_adds 42 = .ok (.iadd, 1) := by decide +kernel
theorem dX6_adds_43 : decode cX6_adds 43 = .ok (.iload 5, 2) := by decide +kernel
theorem dX6_adds_45 : decode cX6_adds 45 = .ok (.iadd, 1) := by decide +kernel
theorem dX6_adds_46 : decode cX6_adds 46 = .ok (.iload 4, 2) := by decide +kernel
theorem dX6_adds_48 : decode cX6_adds 48 = .ok (.iastore, 1) := by decide +kernel
theorem dX6_adds_49 : decode cX6_adds 49 = .ok (.aload_n 0, 1) := by decide +kernel
theorem dX6_adds_50 : decode cX6_adds 50 = .ok (.getfield 7, 3) := by decide +kernel
theorem dX6_adds_53 : decode cX6_adds 53 = .ok (.iload_n 1, 1) := by decide +kernel
theorem dX6_adds_54 : decode cX6_adds 54 = .ok (.iconst 1, 1) := by decide +kernel
theorem dX6_adds_55 : decode cX6_adds 55 = .ok (.iadd, 1) := by decide +kernel
theorem dX6_adds_56 : decode cX6_adds 56 = .ok (.iload_n 2, 1) := by decide +kernel
theorem dX6_adds_57 : decode cX6_adds 57 = .ok (.iadd, 1) := by decide +kernel
theorem dX6_adds_58 : decode cX6_adds 58 = .ok (.dup2, 1) := by decide +kernel
theorem dX6_adds_59 : decode cX6_adds 59 = .ok (.iaload, 1) := by decide +kernel
theorem dX6_adds_60 : decode cX6_adds 60 = .ok (.iconst 1, 1) := by decide +kernel
theorem dX6_adds_61 : decode cX6_adds 61 = .ok (.iadd, 1) := by decide +kernel
theorem dX6_adds_62 : decode cX6_adds 62 = .ok (.iastore, 1) := by decide +kernel
theorem dX6_adds_63 : decode cX6_adds 63 = .ok (.return_, 1) := by decide +kernel
theorem dX6_goes_0 : decode cX6_goes 0 = .ok (.bipush 6, 2) := by decide +kernel
theorem dX6_goes_2 : decode cX6_goes 2 = .ok (.iload_n 1, 1) := by decide +kernel
theorem dX6_goes_3 : decode cX6_goes 3 = .ok (.imul, 1) := by decide +kernel
theorem dX6_goes_4 : decode cX6_goes 4 = .ok (.iload_n 2, 1) := by decide +kernel
theorem dX6_goes_5 : decode cX6_goes 5 = .ok (.iadd, 1) := by decide +kernel
theorem dX6_goes_6 : decode cX6_goes 6 = .ok (.istore_n 3, 1) := by decide +kernel
theorem dX6_goes_7 : decode cX6_goes 7 = .ok (.iload_n 3, 1) := by decide +kernel
theorem dX6_goes_8 : decode cX6_goes 8 = .ok (.iconst 1, 1) := by decide +kernel
theorem dX6_goes_9 : decode cX6_goes 9 = .ok (.iadd, 1) := by decide +kernel
theorem dX6_goes_10 : decode cX6_goes 10 = .ok (.bipush 6, 2) := by decide +kernel
theorem dX6_goes_12 : decode cX6_goes 12 = .ok (.iload_n 1, 1) := by decide +kernel
theorem dX6_goes_13 : decode cX6_goes 13 = .ok (.imul, 1) := by decide +kernel
theorem dX6_goes_14 : decode cX6_goes 14 = .ok (.aload_n 0, 1) := by decide +kernel
theorem dX6_goes_15 : decode cX6_goes 15 = .ok (.getfield 7, 3) := by decide +kernel
theorem dX6_goes_18 : decode cX6_goes 18 = .ok (.iconst 1, 1) := by decide +kernel
theorem dX6_goes_19 : decode cX6_goes 19 = .ok (.iload_n 1, 1) := by decide +kernel
theorem dX6_goes_20 : decode cX6_goes 20 = .ok (.iadd, 1) := by decide +kernel
theorem dX6_goes_21 : decode cX6_goes 21 = .ok (.iaload, 1) := by decide +kernel
theorem dX6_goes_22 : decode cX6_goes 22 = .ok (.iadd, 1) := by decide +kernel
theorem dX6_goes_23 : decode cX6_goes 23 = .ok (.if_icmp .ge 49, 3) := by decide +kernel
theorem dX6_goes_26 : decode cX6_goes 26 = .ok (.aload_n 0, 1) := by decide +kernel
theorem dX6_goes_27 : decode cX6_goes 27 = .ok (.getfield 7, 3) := by decide +kernel
theorem dX6_goes_30 : decode cX6_goes 30 = .ok (.bipush 6, 2) := by decide +kernel
theorem dX6_goes_32 : decode cX6_goes 32 = .ok (.iload_n 3, 1) := by decide +kernel
theorem dX6_goes_33 : decode cX6_goes 33 = .ok (.iadd, 1) := by decide +kernel
theorem dX6_goes_34 : decode cX6_goes 34 = .ok (.aload_n 0, 1) := by decide +kernel
theorem dX6_goes_35 : decode cX6_goes 35 = .ok (.getfield 7, 3) := by decide +kernel
theorem dX6_goes_38 : decode cX6_goes 38 = .ok (.bipush 6, 2) := by decide +kernel
theorem dX6_goes_40 : decode cX6_goes 40 = .ok (.iload_n 3, 1) := by decide +kernel
theorem dX6_goes_41 : decode cX6_goes 41 = .ok (.iadd, 1) := by decide +kernel
theorem dX6_goes_42 : decode cX6_goes 42 = .ok (.iconst 1, 1) := by decide +kernel
theorem dX6_goes_43 : decode cX6_goes 43 = .ok (.iadd, 1) := by decide +kernel
theorem dX6_goes_44 : decode cX6_goes 44 = .ok (.iaload, 1) := by decide +kernel
theorem dX6_goes_45 : decode cX6_goes 45 = .ok (.iastore, 1) := by decide +kernel
theorem dX6_goes_46 : decode cX6_goes 46 = .ok (.aload_n 0, 1) := by decide +kernel
theorem dX6_goes_47 : decode cX6_goes 47 = .ok (.getfield 7, 3) := by decide +kernel
theorem dX6_goes_50 : decode cX6_goes 50 = .ok (.bipush 36, 2) := by decide +kernel
theorem dX6_goes_52 : decode cX6_goes 52 = .ok (.iload_n 3, 1) := by decide +kernel
theorem dX6_goes_53 : decode cX6_goes 53 = .ok (.iadd, 1) := by decide +kernel
theorem dX6_goes_54 : decode cX6_goes 54 = .ok (.aload_n 0, 1) := by decide +kernel
theorem dX6_goes_55 : decode cX6_goes 55 = .ok (.getfield 7, 3) := by decide +kernel
theorem dX6_goes_58 : decode cX6_goes 58 = .ok (.bipush 36, 2) := by decide +kernel
theorem dX6_goes_60 : decode cX6_goes 60 = .ok (.iload_n 3, 1) := by decide +kernel
theorem dX6_goes_61 : decode cX6_goes 61 = .ok (.iadd, 1) := by decide +kernel
theorem dX6_goes_62 : decode cX6_goes 62 = .ok (.iconst 1, 1) := by decide +kernel
theorem dX6_goes_63 : decode cX6_goes 63 = .ok (.iadd, 1) := by decide +kernel
theorem dX6_goes_64 : decode cX6_goes 64 = .ok (.iaload, 1) := by decide +kernel
theorem dX6_goes_65 : decode cX6_goes 65 = .ok (.iastore, 1) := by decide +kernel
theorem dX6_goes_66 : decode cX6_goes 66 = .ok (.iinc 3 1, 3) := by decide +kernel
theorem dX6_goes_69 : decode cX6_goes 69 = .ok (.goto (-62), 3) := by decide +kernel
theorem dX6_goes_72 : decode cX6_goes 72 = .ok (.aload_n 0, 1) := by decide +kernel
theorem dX6_goes_73 : decode cX6_goes 73 = .ok (.getfield 7, 3) := by decide +kernel
theorem dX6_goes_76 : decode cX6_goes 76 = .ok (.iconst 1, 1) := by decide +kernel
theorem dX6_goes_77 : decode cX6_goes 77 = .ok (.iload_n 1, 1) := by decide +kernel
theorem dX6_goes_78 : decode cX6_goes 78 = .ok (.iadd, 1) := by decide +kernel
theorem dX6_goes_79 : decode cX6_goes 79 = .ok (.dup2, 1) := by decide +kernel
theorem dX6_goes_80 : decode cX6_goes 80 = .ok (.iaload, 1) := by decide +kernel
theorem dX6_goes_81 : decode cX6_goes 81 = .ok (.iconst 1, 1) := by decide +kernel
theorem dX6_goes_82 : decode cX6_goes 82 = .ok (.isub, 1) := by decide +kernel
theorem dX6_goes_83 : decode cX6_goes 83 = .ok (.iastore, 1) := by decide +kernel
theorem dX6_goes_84 : decode cX6_goes 84 = .ok (.return_, 1) := by decide +kernel
theorem dX6_numberOf_0 : decode cX6_numberOf 0 = .ok (.iload_n 2, 1) := by decide +kernel
theorem dX6_numberOf_1 : decode cX6_numberOf 1 = .ok (.istore_n 3, 1) := by decide +kernel
theorem dX6_numberOf_2 : decode cX6_numberOf 2 = .ok (.iconst 0, 1) := by decide +kernel
theorem dX6_numberOf_3 : decode cX6_numberOf 3 = .ok (.istore 4, 2) := by decide +kernel
theorem dX6_numberOf_5 : decode cX6_numberOf 5 = .ok (.iload 4, 2) := by decide +kernel
theorem dX6_numberOf_7 : decode cX6_numberOf 7 = .ok (.iload_n 1, 1) := by decide +kernel
theorem dX6_numberOf_8 : decode cX6_numberOf 8 = .ok (.if_icmp .ge 21, 3) := by decide +kernel
theorem dX6_numberOf_11 : decode cX6_numberOf 11 = .ok (.iload_n 3, 1) := by decide +kernel
theorem dX6_numberOf_12 : decode cX6_numberOf 12 = .ok (.aload_n 0, 1) := by decide +kernel
theorem dX6_numberOf_13 : decode cX6_numberOf 13 = .ok (.getfield 7, 3) := by decide +kernel
theorem dX6_numberOf_16 : decode cX6_numberOf 16 = .ok (.iconst 1, 1) := by decide +kernel
theorem dX6_numberOf_17 : decode cX6_numberOf 17 = .ok (.iload 4, 2) := by decide +kernel
theorem dX6_numberOf_19 : decode cX6_numberOf 19 = .ok (.iadd, 1) := by decide +kernel
theorem dX6_numberOf_20 : decode cX6_numberOf 20 = .ok (.iaload, 1) := by decide +kernel
theorem dX6_numberOf_21 : decode cX6_numberOf 21 = .ok (.iadd, 1) := by decide +kernel
theorem dX6_numberOf_22 : decode cX6_numberOf 22 = .ok (.istore_n 3, 1) := by decide +kernel
theorem dX6_numberOf_23 : decode cX6_numberOf 23 = .ok (.iinc 4 1, 3) := by decide +kernel
theorem dX6_numberOf_26 : decode cX6_numberOf 26 = .ok (.goto (-21), 3) := by decide +kernel
theorem dX6_numberOf_29 : decode cX6_numberOf 29 = .ok (.iload_n 3, 1) := by decide +kernel
theorem dX6_numberOf_30 : decode cX6_numberOf 30 = .ok (.ireturn, 1) := by decide +kernel
theorem dX6_towerOf_0 : decode cX6_towerOf 0 = .ok (.iconst 0, 1) := by decide +kernel
theorem dX6_towerOf_1 : decode cX6_towerOf 1 = .ok (.istore_n 2, 1) := by decide +kernel
theorem dX6_towerOf_2 : decode cX6_towerOf 2 = .ok (.iload_n 1, 1) := by decide +kernel
theorem dX6_towerOf_3 : decode cX6_towerOf 3 = .ok (.istore_n 3, 1) := by decide +kernel
theorem dX6_towerOf_4 : decode cX6_towerOf 4 = .ok (.iload_n 3, 1) := by decide +kernel
theorem dX6_towerOf_5 : decode cX6_towerOf 5 = .ok (.aload_n 0, 1) := by decide +kernel
theorem dX6_towerOf_6 : decode cX6_towerOf 6 = .ok (.getfield 7, 3) := by decide +kernel
theorem dX6_towerOf_9 : decode cX6_towerOf 9 = .ok (.iconst 1, 1) := by decide +kernel
theorem dX6_towerOf_10 : decode cX6_towerOf 10 = .ok (.iload_n 2, 1) := by decide +kernel
theorem dX6_towerOf_11 : decode cX6_towerOf 11 = .ok (.iadd, 1) := by decide +kernel
theorem dX6_towerOf_12 : decode cX6_towerOf 12 = .ok (.iaload, 1) := by decide +kernel
theorem dX6_towerOf_13 : decode cX6_towerOf 13 = .ok (.if_icmp .lt 20, 3) := by decide +kernel
theorem dX6_towerOf_16 : decode cX6_towerOf 16 = .ok (.iload_n 3, 1) := by decide +kernel
theorem dX6_towerOf_17 : decode cX6_towerOf 17 = .ok (.aload_n 0, 1) := by decide +kernel
theorem dX6_towerOf_18 : decode cX6_towerOf 18 = .ok (.getfield 7, 3) := by decide +kernel
theorem dX6_towerOf_21 : decode cX6_towerOf 21 = .ok (.iconst 1, 1) := by decide +kernel
theorem dX6_towerOf_22 : decode cX6_towerOf 22 = .ok (.iload_n 2, 1) := by decide +kernel
theorem dX6_towerOf_23 : decode cX6_towerOf 23 = .ok (.iadd, 1) := by decide +kernel
theorem dX6_towerOf_24 : decode cX6_towerOf 24 = .ok (.iaload, 1) := by decide +kernel
theorem dX6_towerOf_25 : decode cX6_towerOf 25 = .ok (.isub, 1) := by decide +kernel
theorem dX6_towerOf_26 : decode cX6_towerOf 26 = .ok (.istore_n 3, 1) := by decide +kernel
theorem dX6_towerOf_27 : decode cX6_towerOf 27 = .ok (.iinc 2 1, 3) := by decide +kernel
theorem dX6_towerOf_30 : decode cX6_towerOf 30 = .ok (.goto (-26), 3) := by decide +kernel
theorem dX6_towerOf_33 : decode cX6_towerOf 33 = .ok (.iload_n 2, 1) := by decide +kernel
theorem dX6_towerOf_34 : decode cX6_towerOf 34 = .ok (.ireturn, 1) := by decide +kernel
theorem dX6_storeyOf_0 : decode cX6_storeyOf 0 = .ok (.iload_n 1, 1) := by decide +kernel
theorem dX6_storeyOf_1 : decode cX6_storeyOf 1 = .ok (.aload_n 0, 1) := by decide +kernel
theorem dX6_storeyOf_2 : decode cX6_storeyOf 2 = .ok (.aload_n 0, 1) := by decide +kernel
theorem dX6_storeyOf_3 : decode cX6_storeyOf 3 = .ok (.iload_n 1, 1) := by decide +kernel
theorem dX6_storeyOf_4 : decode cX6_storeyOf 4 = .ok (.invokevirtual 121, 3) := by decide +kernel
theorem dX6_storeyOf_7 : decode cX6_storeyOf 7 = .ok (.iconst 0, 1) := by decide +kernel
theorem dX6_storeyOf_8 : decode cX6_storeyOf 8 = .ok (.invokevirtual 124, 3) := by decide +kernel
theorem dX6_storeyOf_11 : decode cX6_storeyOf 11 = .ok (.isub, 1) := by decide +kernel
theorem dX6_storeyOf_12 : decode cX6_storeyOf 12 = .ok (.ireturn, 1) := by decide +kernel
theorem dX6_tower_0 : decode cX6_tower 0 = .ok (.aload_n 0, 1) := by decide +kernel
theorem dX6_tower_1 : decode cX6_tower 1 = .ok (.iload_n 1, 1) := by decide +kernel
theorem dX6_tower_2 : decode cX6_tower 2 = .ok (.invokevirtual 118, 3) := by decide +kernel
theorem dX6_tower_5 : decode cX6_tower 5 = .ok (.ifCond .eq 14, 3) := by decide +kernel
theorem dX6_tower_8 : decode cX6_tower 8 = .ok (.aload_n 0, 1) := by decide +kernel
theorem dX6_tower_9 : decode cX6_tower 9 = .ok (.getfield 7, 3) := by decide +kernel
theorem dX6_tower_12 : decode cX6_tower 12 = .ok (.iconst 1, 1) := by decide +kernel
theorem dX6_tower_13 : decode cX6_tower 13 = .ok (.iload_n 1, 1) := by decide +kernel
theorem dX6_tower_14 : decode cX6_tower 14 = .ok (.iadd, 1) := by decide +kernel
theorem dX6_tower_15 : decode cX6_tower 15 = .ok (.iaload, 1) := by decide +kernel
theorem dX6_tower_16 : decode cX6_tower 16 = .ok (.goto 4, 3) := by decide +kernel
theorem dX6_tower_19 : decode cX6_tower 19 = .ok (.iconst (-1), 1) := by decide +kernel
theorem dX6_tower_20 : decode cX6_tower 20 = .ok (.ireturn, 1) := by decide +kernel
theorem dX6_isGlass_0 : decode cX6_isGlass 0 = .ok (.iload_n 0, 1) := by decide +kernel
theorem dX6_isGlass_1 : decode cX6_isGlass 1 = .ok (.iconst 1, 1) := by decide +kernel
theorem dX6_isGlass_2 : decode cX6_isGlass 2 = .ok (.if_icmp .eq 8, 3) := by decide +kernel
theorem dX6_isGlass_5 : decode cX6_isGlass 5 = .ok (.iload_n 0, 1) := by decide +kernel
theorem dX6_isGlass_6 : decode cX6_isGlass 6 = .ok (.iconst 4, 1) := by decide +kernel
theorem dX6_isGlass_7 : decode cX6_isGlass 7 = .ok (.if_icmp .ne 7, 3) := by decide +kernel
theorem dX6_isGlass_10 : decode cX6_isGlass 10 = .ok (.iconst 1, 1) := by decide +kernel
theorem dX6_isGlass_11 : decode cX6_isGlass 11 = .ok (.goto 4, 3) := by decide +kernel
theorem dX6_isGlass_14 : decode cX6_isGlass 14 = .ok (.iconst 0, 1) := by decide +kernel
theorem dX6_isGlass_15 : decode cX6_isGlass 15 = .ok (.ireturn, 1) := by decide +kernel
theorem dX6_isLeaning_0 : decode cX6_isLeaning 0 = .ok (.iload_n 0, 1) := by decide +kernel
theorem dX6_isLeaning_1 : decode cX6_isLeaning 1 = .ok (.iconst 2, 1) := by decide +kernel
theorem dX6_isLeaning_2 : decode cX6_isLeaning 2 = .ok (.if_icmp .eq 8, 3) := by decide +kernel
theorem dX6_isLeaning_5 : decode cX6_isLeaning 5 = .ok (.iload_n 0, 1) := by decide +kernel
theorem dX6_isLeaning_6 : decode cX6_isLeaning 6 = .ok (.iconst 5, 1) := by decide +kernel
theorem dX6_isLeaning_7 : decode cX6_isLeaning 7 = .ok (.if_icmp .ne 7, 3) := by decide +kernel
theorem dX6_isLeaning_10 : decode cX6_isLeaning 10 = .ok (.iconst 1, 1) := by decide +kernel
theorem dX6_isLeaning_11 : decode cX6_isLeaning 11 = .ok (.goto 4, 3) := by decide +kernel
theorem dX6_isLeaning_14 : decode cX6_isLeaning 14 = .ok (.iconst 0, 1) := by decide +kernel
theorem dX6_isLeaning_15 : decode cX6_isLeaning 15 = .ok (.ireturn, 1) := by decide +kernel
theorem dX6_weightIn_0 : decode cX6_weightIn 0 = .ok (.iload_n 1, 1) := by decide +kernel
theorem dX6_weightIn_1 : decode cX6_weightIn 1 = .ok (.aload_n 0, 1) := by decide +kernel
theorem dX6_weightIn_2 : decode cX6_weightIn 2 = .ok (.getfield 7, 3) := by decide +kernel
theorem dX6_weightIn_5 : decode cX6_weightIn 5 = .ok (.iconst 0, 1) := by decide +kernel
theorem dX6_weightIn_6 : decode cX6_weightIn 6 = .ok (.iaload, 1) := by decide +kernel
theorem dX6_weightIn_7 : decode cX6_weightIn 7 = .ok (.iconst 1, 1) := by decide +kernel
theorem dX6_weightIn_8 : decode cX6_weightIn 8 = .ok (.isub, 1) := by decide +kernel
theorem dX6_weightIn_9 : decode cX6_weightIn 9 = .ok (.if_icmp .ne 7, 3) := by decide +kernel
theorem dX6_weightIn_12 : decode cX6_weightIn 12 = .ok (.iconst 1, 1) := by decide +kernel
theorem dX6_weightIn_13 : decode cX6_weightIn 13 = .ok (.goto 4, 3) := by decide +kernel
theorem dX6_weightIn_16 : decode cX6_weightIn 16 = .ok (.iconst 0, 1) := by decide +kernel
theorem dX6_weightIn_17 : decode cX6_weightIn 17 = .ok (.istore_n 3, 1) := by decide +kernel
theorem dX6_weightIn_18 : decode cX6_weightIn 18 = .ok (.iload_n 2, 1) := by decide +kernel
theorem dX6_weightIn_19 : decode cX6_weightIn 19 = .ok (.invokestatic 127, 3) := by decide +kernel
theorem dX6_weightIn_22 : decode cX6_weightIn 22 = .ok (.ifCond .eq 7, 3) := by decide +kernel
theorem dX6_weightIn_25 : decode cX6_weightIn 25 = .ok (.iconst 1, 1) := by decide +kernel
theorem dX6_weightIn_26 : decode cX6_weightIn 26 = .ok (.goto 32, 3) := by decide +kernel
theorem dX6_weightIn_29 : decode cX6_weightIn 29 = .ok (.iload_n 2, 1) := by decide +kernel
theorem dX6_weightIn_30 : decode cX6_weightIn 30 = .ok (.invokestatic 130, 3) := by decide +kernel
theorem dX6_weightIn_33 : decode cX6_weightIn 33 = .ok (.ifCond .eq 15, 3) := by decide +kernel
theorem dX6_weightIn_36 : decode cX6_weightIn 36 = .ok (.iload_n 3, 1) := by decide +kernel
theorem dX6_weightIn_37 : decode cX6_weightIn 37 = .ok (.ifCond .eq 7, 3) := by decide +kernel
theorem dX6_weightIn_40 : decode cX6_weightIn 40 = .ok (.iconst 2, 1) := by decide +kernel
theorem dX6_weightIn_41 : decode cX6_weightIn 41 = .ok (.goto 17, 3) := by decide +kernel
theorem dX6_weightIn_44 : decode cX6_weightIn 44 = .ok (.iconst 1, 1) := by decide +kernel
theorem dX6_weightIn_45 : decode cX6_weightIn 45 = .ok (.goto 13, 3) := by decide +kernel
theorem dX6_weightIn_48 : decode cX6_weightIn 48 = .ok (.iload_n 2, 1) := by decide +kernel
theorem dX6_weightIn_49 : decode cX6_weightIn 49 = .ok (.iconst 3, 1) := by decide +kernel
theorem dX6_weightIn_50 : decode cX6_weightIn 50 = .ok (.if_icmp .ne 7, 3) := by decide +kernel
theorem dX6_weightIn_53 : decode cX6_weightIn 53 = .ok (.iconst 4, 1) := by decide +kernel
theorem dX6_weightIn_54 : decode cX6_weightIn 54 = .ok (.goto 4, 3) := by decide +kernel
theorem dX6_weightIn_57 : decode cX6_weightIn 57 = .ok (.iconst 2, 1) := by decide +kernel
theorem dX6_weightIn_58 : decode cX6_weightIn 58 = .ok (.ireturn, 1) := by decide +kernel
theorem dX6_weighsOn_0 : decode cX6_weighsOn 0 = .ok (.iconst 0, 1) := by decide +kernel
theorem dX6_weighsOn_1 : decode cX6_weighsOn 1 = .ok (.istore_n 3, 1) := by decide +kernel
theorem dX6_weighsOn_2 : decode cX6_weighsOn 2 = .ok (.iload_n 2, 1) := by decide +kernel
theorem dX6_weighsOn_3 : decode cX6_weighsOn 3 = .ok (.iconst 1, 1) := by decide +kernel
theorem dX6_weighsOn_4 : decode cX6_weighsOn 4 = .ok (.iadd, 1) := by decide +kernel
theorem dX6_weighsOn_5 : decode cX6_weighsOn 5 = .ok (.istore 4, 2) := by decide +kernel
theorem dX6_weighsOn_7 : decode cX6_weighsOn 7 = .ok (.iload 4, 2) := by decide +kernel
theorem dX6_weighsOn_9 : decode cX6_weighsOn 9 = .ok (.aload_n 0, 1) := by decide +kernel
theorem dX6_weighsOn_10 : decode cX6_weighsOn 10 = .ok (.getfield 7, 3) := by decide +kernel
theorem dX6_weighsOn_13 : decode cX6_weighsOn 13 = .ok (.iconst 1, 1) := by decide +kernel
theorem dX6_weighsOn_14 : decode cX6_weighsOn 14 = .ok (.iload_n 1, 1) := by decide +kernel
theorem dX6_weighsOn_15 : decode cX6_weighsOn 15 = .ok (.iadd, 1) := by decide +kernel
theorem dX6_weighsOn_16 : decode cX6_weighsOn 16 = .ok (.iaload, 1) := by decide +kernel
theorem dX6_weighsOn_17 : decode cX6_weighsOn 17 = .ok (.if_icmp .ge 24, 3) := by decide +kernel
theorem dX6_weighsOn_20 : decode cX6_weighsOn 20 = .ok (.iload_n 3, 1) := by decide +kernel
theorem dX6_weighsOn_21 : decode cX6_weighsOn 21 = .ok (.aload_n 0, 1) := by decide +kernel
theorem dX6_weighsOn_22 : decode cX6_weighsOn 22 = .ok (.iload_n 1, 1) := by decide +kernel
theorem dX6_weighsOn_23 : decode cX6_weighsOn 23 = .ok (.aload_n 0, 1) := by decide +kernel
theorem dX6_weighsOn_24 : decode cX6_weighsOn 24 = .ok (.iload_n 1, 1) := by decide +kernel
theorem dX6_weighsOn_25 : decode cX6_weighsOn 25 = .ok (.iload 4, 2) := by decide +kernel
theorem dX6_weighsOn_27 : decode cX6_weighsOn 27 = .ok (.invokevirtual 133, 3) := by decide +kernel
theorem dX6_weighsOn_30 : decode cX6_weighsOn 30 = .ok (.invokevirtual 136, 3) := by decide +kernel
theorem dX6_weighsOn_33 : decode cX6_weighsOn 33 = .ok (.iadd, 1) := by decide +kernel
theorem dX6_weighsOn_34 : decode cX6_weighsOn 34 = .ok (.istore_n 3, 1) := by decide +kernel
theorem dX6_weighsOn_35 : decode cX6_weighsOn 35 = .ok (.iinc 4 1, 3) := by decide +kernel
theorem dX6_weighsOn_38 : decode cX6_weighsOn 38 = .ok (.goto (-31), 3) := by decide +kernel
theorem dX6_weighsOn_41 : decode cX6_weighsOn 41 = .ok (.iload_n 2, 1) := by decide +kernel
theorem dX6_weighsOn_42 : decode cX6_weighsOn 42 = .ok (.istore 4, 2) := by decide +kernel
theorem dX6_weighsOn_44 : decode cX6_weighsOn 44 = .ok (.iload_n 1, 1) := by decide +kernel
theorem dX6_weighsOn_45 : decode cX6_weighsOn 45 = .ok (.ifCond .le 47, 3) := by decide +kernel
theorem dX6_weighsOn_48 : decode cX6_weighsOn 48 = .ok (.iload 4, 2) := by decide +kernel
theorem dX6_weighsOn_50 : decode cX6_weighsOn 50 = .ok (.aload_n 0, 1) := by decide +kernel
theorem dX6_weighsOn_51 : decode cX6_weighsOn 51 = .ok (.getfield 7, 3) := by decide +kernel
theorem dX6_weighsOn_54 : decode cX6_weighsOn 54 = .ok (.iconst 1, 1) := by decide +kernel
theorem dX6_weighsOn_55 : decode cX6_weighsOn 55 = .ok (.iload_n 1, 1) := by decide +kernel
theorem dX6_weighsOn_56 : decode cX6_weighsOn 56 = .ok (.iadd, 1) := by decide +kernel
theorem dX6_weighsOn_57 : decode cX6_weighsOn 57 = .ok (.iconst 1, 1) := by decide +kernel
theorem dX6_weighsOn_58 : decode cX6_weighsOn 58 = .ok (.isub, 1) := by decide +kernel
theorem dX6_weighsOn_59 : decode cX6_weighsOn 59 = .ok (.iaload, 1) := by decide +kernel
theorem dX6_weighsOn_60 : decode cX6_weighsOn 60 = .ok (.if_icmp .ge 32, 3) := by decide +kernel
theorem dX6_weighsOn_63 : decode cX6_weighsOn 63 = .ok (.iload_n 3, 1) := by decide +kernel
theorem dX6_weighsOn_64 : decode cX6_weighsOn 64 = .ok (.aload_n 0, 1) := by decide +kernel
theorem dX6_weighsOn_65 : decode cX6_weighsOn 65 = .ok (.iload_n 1, 1) := by decide +kernel
theorem dX6_weighsOn_66 : decode cX6_weighsOn 66 = .ok (.iconst 1, 1) := by decide +kernel
theorem dX6_weighsOn_67 : decode cX6_weighsOn 67 = .ok (.isub, 1) := by decide +kernel
theorem dX6_weighsOn_68 : decode cX6_weighsOn 68 = .ok (.iload 4, 2) := by decide +kernel
theorem dX6_weighsOn_70 : decode cX6_weighsOn 70 = .ok (.invokevirtual 133, 3) := by decide +kernel
theorem dX6_weighsOn_73 : decode cX6_weighsOn 73 = .ok (.invokestatic 130, 3) := by decide +kernel
theorem dX6_weighsOn_76 : decode cX6_weighsOn 76 = .ok (.ifCond .eq 7, 3) := by decide +kernel
theorem dX6_weighsOn_79 : decode cX6_weighsOn 79 = .ok (.iconst 1, 1) := by decide +kernel
theorem dX6_weighsOn_80 : decode cX6_weighsOn 80 = .ok (.goto 4, 3) := by decide +kernel
theorem dX6_weighsOn_83 : decode cX6_weighsOn 83 = .ok (.iconst 0, 1) := by decide +kernel
theorem dX6_weighsOn_84 : decode cX6_weighsOn 84 = .ok (.iadd, 1) := by decide +kernel
theorem dX6_weighsOn_85 : decode cX6_weighsOn 85 = .ok (.istore_n 3, 1) := by decide +kernel
theorem dX6_weighsOn_86 : decode cX6_weighsOn 86 = .ok (.iinc 4 1, 3) := by decide +kernel
theorem dX6_weighsOn_89 : decode cX6_weighsOn 89 = .ok (.goto (-45), 3) := by decide +kernel
theorem dX6_weighsOn_92 : decode cX6_weighsOn 92 = .ok (.iload_n 3, 1) := by decide +kernel
theorem dX6_weighsOn_93 : decode cX6_weighsOn 93 = .ok (.ireturn, 1) := by decide +kernel
theorem dX6_swaying_0 : decode cX6_swaying 0 = .ok (.iconst 0, 1) := by decide +kernel
theorem dX6_swaying_1 : decode cX6_swaying 1 = .ok (.istore_n 1, 1) := by decide +kernel
theorem dX6_swaying_2 : decode cX6_swaying 2 = .ok (.iconst 0, 1) := by decide +kernel
theorem dX6_swaying_3 : decode cX6_swaying 3 = .ok (.istore_n 2, 1) := by decide +kernel
theorem dX6_swaying_4 : decode cX6_swaying 4 = .ok (.iload_n 2, 1) := by decide +kernel
theorem dX6_swaying_5 : decode cX6_swaying 5 = .ok (.aload_n 0, 1) := by decide +kernel
theorem dX6_swaying_6 : decode cX6_swaying 6 = .ok (.getfield 7, 3) := by decide +kernel
theorem dX6_swaying_9 : decode cX6_swaying 9 = .ok (.iconst 0, 1) := by decide +kernel
theorem dX6_swaying_10 : decode cX6_swaying 10 = .ok (.iaload, 1) := by decide +kernel
theorem dX6_swaying_11 : decode cX6_swaying 11 = .ok (.if_icmp .ge 59, 3) := by decide +kernel
theorem dX6_swaying_14 : decode cX6_swaying 14 = .ok (.iconst 0, 1) := by decide +kernel
theorem dX6_swaying_15 : decode cX6_swaying 15 = .ok (.istore_n 3, 1) := by decide +kernel
theorem dX6_swaying_16 : decode cX6_swaying 16 = .ok (.iload_n 3, 1) := by decide +kernel
theorem dX6_swaying_17 : decode cX6_swaying 17 = .ok (.aload_n 0, 1) := by decide +kernel
theorem dX6_swaying_18 : decode cX6_swaying 18 = .ok (.getfield 7, 3) := by decide +kernel
theorem dX6_swaying_21 : decode cX6_swaying 21 = .ok (.iconst 1, 1) := by decide +kernel
theorem dX6_swaying_22 : decode cX6_swaying 22 = .ok (.iload_n 2, 1) := by decide +kernel
theorem dX6_swaying_23 : decode cX6_swaying 23 = .ok (.iadd, 1) := by decide +kernel
theorem dX6_swaying_24 : decode cX6_swaying 24 = .ok (.iaload, 1) := by decide +kernel
theorem dX6_swaying_25 : decode cX6_swaying 25 = .ok (.if_icmp .ge 39, 3) := by decide +kernel
theorem dX6_swaying_28 : decode cX6_swaying 28 = .ok (.iload_n 1, 1) := by decide +kernel
theorem dX6_swaying_29 : decode cX6_swaying 29 = .ok (.aload_n 0, 1) := by decide +kernel
theorem dX6_swaying_30 : decode cX6_swaying 30 = .ok (.iload_n 2, 1) := by decide +kernel
theorem dX6_swaying_31 : decode cX6_swaying 31 = .ok (.iload_n 3, 1) := by decide +kernel
theorem dX6_swaying_32 : decode cX6_swaying 32 = .ok (.invokevirtual 139, 3) := by decide +kernel
theorem dX6_swaying_35 : decode cX6_swaying 35 = .ok (.aload_n 0, 1) := by decide +kernel
theorem dX6_swaying_36 : decode cX6_swaying 36 = .ok (.iload_n 2, 1) := by decide +kernel
theorem dX6_swaying_37 : decode cX6_swaying 37 = .ok (.iload_n 3, 1) := by decide +kernel
theorem dX6_swaying_38 : decode cX6_swaying 38 = .ok (.invokevirtual 142, 3) := by decide +kernel
theorem dX6_swaying_41 : decode cX6_swaying 41 = .ok (.if_icmp .le 14, 3) := by decide +kernel
theorem dX6_swaying_44 : decode cX6_swaying 44 = .ok (.iconst 1, 1) := by decide +kernel
theorem dX6_swaying_45 : decode cX6_swaying 45 = .ok (.aload_n 0, 1) := by decide +kernel
theorem dX6_swaying_46 : decode cX6_swaying 46 = .ok (.iload_n 2, 1) := by decide +kernel
theorem dX6_swaying_47 : decode cX6_swaying 47 = .ok (.iload_n 3, 1) := by decide +kernel
theorem dX6_swaying_48 : decode cX6_swaying 48 = .ok (.invokevirtual 124, 3) := by decide +kernel
theorem dX6_swaying_51 : decode cX6_swaying 51 = .ok (.ishl, 1) := by decide +kernel
theorem dX6_swaying_52 : decode cX6_swaying 52 = .ok (.goto 4, 3) := by decide +kernel
theorem dX6_swaying_55 : decode cX6_swaying 55 = .ok (.iconst 0, 1) := by decide +kernel
theorem dX6_swaying_56 : decode cX6_swaying 56 = .ok (.ior, 1) := by decide +kernel
theorem dX6_swaying_57 : decode cX6_swaying 57 = .ok (.istore_n 1, 1) := by decide +kernel
theorem dX6_swaying_58 : decode cX6_swaying 58 = .ok (.iinc 3 1, 3) := by decide +kernel
theorem dX6_swaying_61 : decode cX6_swaying 61 = .ok (.goto (-45), 3) := by decide +kernel
theorem dX6_swaying_64 : decode cX6_swaying 64 = .ok (.iinc 2 1, 3) := by decide +kernel
theorem dX6_swaying_67 : decode cX6_swaying 67 = .ok (.goto (-63), 3) := by decide +kernel
theorem dX6_swaying_70 : decode cX6_swaying 70 = .ok (.iload_n 1, 1) := by decide +kernel
theorem dX6_swaying_71 : decode cX6_swaying 71 = .ok (.ireturn, 1) := by decide +kernel
theorem dX6_eastIn_0 : decode cX6_eastIn 0 = .ok (.iload_n 0, 1) := by decide +kernel
theorem dX6_eastIn_1 : decode cX6_eastIn 1 = .ok (.iconst 2, 1) := by decide +kernel
theorem dX6_eastIn_2 : decode cX6_eastIn 2 = .ok (.if_icmp .ge 7, 3) := by decide +kernel
theorem dX6_eastIn_5 : decode cX6_eastIn 5 = .ok (.iconst (-1), 1) := by decide +kernel
theorem dX6_eastIn_6 : decode cX6_eastIn 6 = .ok (.goto 13, 3) := by decide +kernel
theorem dX6_eastIn_9 : decode cX6_eastIn 9 = .ok (.iload_n 0, 1) := by decide +kernel
theorem dX6_eastIn_10 : decode cX6_eastIn 10 = .ok (.iconst 2, 1) := by decide +kernel
theorem dX6_eastIn_11 : decode cX6_eastIn 11 = .ok (.if_icmp .le 7, 3) := by decide +kernel
theorem dX6_eastIn_14 : decode cX6_eastIn 14 = .ok (.iconst 1, 1) := by decide +kernel
theorem dX6_eastIn_15 : decode cX6_eastIn 15 = .ok (.goto 4, 3) := by decide +kernel
theorem dX6_eastIn_18 : decode cX6_eastIn 18 = .ok (.iconst 0, 1) := by decide +kernel
theorem dX6_eastIn_19 : decode cX6_eastIn 19 = .ok (.ireturn, 1) := by decide +kernel
theorem dX6_upIn_0 : decode cX6_upIn 0 = .ok (.iload_n 0, 1) := by decide +kernel
theorem dX6_upIn_1 : decode cX6_upIn 1 = .ok (.ifCond .le 12, 3) := by decide +kernel
theorem dX6_upIn_4 : decode cX6_upIn 4 = .ok (.iload_n 0, 1) := by decide +kernel
theorem dX6_upIn_5 : decode cX6_upIn 5 = .ok (.iconst 4, 1) := by decide +kernel
theorem dX6_upIn_6 : decode cX6_upIn 6 = .ok (.if_icmp .ge 7, 3) := by decide +kernel
theorem dX6_upIn_9 : decode cX6_upIn 9 = .ok (.iconst 1, 1) := by decide +kernel
theorem dX6_upIn_10 : decode cX6_upIn 10 = .ok (.goto 4, 3) := by decide +kernel
theorem dX6_upIn_13 : decode cX6_upIn 13 = .ok (.iconst 0, 1) := by decide +kernel
theorem dX6_upIn_14 : decode cX6_upIn 14 = .ok (.ireturn, 1) := by decide +kernel
theorem dX6_shader_0 : decode cX6_shader 0 = .ok (.iconst 1, 1) := by decide +kernel
theorem dX6_shader_1 : decode cX6_shader 1 = .ok (.istore 4, 2) := by decide +kernel
theorem dX6_shader_3 : decode cX6_shader 3 = .ok (.iload 4, 2) := by decide +kernel
theorem dX6_shader_5 : decode cX6_shader 5 = .ok (.bipush 7, 2) := by decide +kernel
theorem dX6_shader_7 : decode cX6_shader 7 = .ok (.if_icmp .ge 65, 3) := by decide +kernel
theorem dX6_shader_10 : decode cX6_shader 10 = .ok (.iload_n 1, 1) := by decide +kernel
theorem dX6_shader_11 : decode cX6_shader 11 = .ok (.iload 4, 2) := by decide +kernel
theorem dX6_shader_13 : decode cX6_shader 13 = .ok (.iload_n 3, 1) := by decide +kernel
theorem dX6_shader_14 : decode cX6_shader 14 = .ok (.invokestatic 145, 3) := by decide +kernel
theorem dX6_shader_17 : decode cX6_shader 17 = .ok (.imul, 1) := by decide +kernel
theorem dX6_shader_18 : decode cX6_shader 18 = .ok (.iadd, 1) := by decide +kernel
theorem dX6_shader_19 : decode cX6_shader 19 = .ok (.istore 5, 2) := by decide +kernel
theorem dX6_shader_21 : decode cX6_shader 21 = .ok (.iload_n 2, 1) := by decide +kernel
theorem dX6_shader_22 : decode cX6_shader 22 = .ok (.iload 4, 2) := by decide +kernel
theorem dX6_shader_24 : decode cX6_shader 24 = .ok (.iload_n 3, 1) := by decide +kernel
theorem dX6_shader_25 : decode cX6_shader 25 = .ok (.invokestatic 148, 3) := by decide +kernel
theorem dX6_shader_28 : decode cX6_shader 28 = .ok (.imul, 1) := by decide +kernel
theorem dX6_shader_29 : decode cX6_shader 29 = .ok (.iadd, 1) := by decide +kernel
theorem dX6_shader_30 : decode cX6_shader 30 = .ok (.istore 6, 2) := by decide +kernel
theorem dX6_shader_32 : decode cX6_shader 32 = .ok (.aload_n 0, 1) := by decide +kernel
theorem dX6_shader_33 : decode cX6_shader 33 = .ok (.iload 5, 2) := by decide +kernel
theorem dX6_shader_35 : decode cX6_shader 35 = .ok (.iload 6, 2) := by decide +kernel
theorem dX6_shader_37 : decode cX6_shader 37 = .ok (.invokevirtual 151, 3) := by decide +kernel
theorem dX6_shader_40 : decode cX6_shader 40 = .ok (.ifCond .eq 26, 3) := by decide +kernel
theorem dX6_shader_43 : decode cX6_shader 43 = .ok (.aload_n 0, 1) := by decide +kernel
theorem dX6_shader_44 : decode cX6_shader 44 = .ok (.iload 5, 2) := by decide +kernel
theorem dX6_shader_46 : decode cX6_shader 46 = .ok (.iload 6, 2) := by decide +kernel
theorem dX6_shader_48 : decode cX6_shader 48 = .ok (.invokevirtual 133, 3) := by decide +kernel
theorem dX6_shader_51 : decode cX6_shader 51 = .ok (.invokestatic 127, 3) := by decide +kernel
theorem dX6_shader_54 : decode cX6_shader 54 = .ok (.ifCond .ne 12, 3) := by decide +kernel
theorem dX6_shader_57 : decode cX6_shader 57 = .ok (.aload_n 0, 1) := by decide +kernel
theorem dX6_shader_58 : decode cX6_shader 58 = .ok (.iload 5, 2) := by decide +kernel
theorem dX6_shader_60 : decode cX6_shader 60 = .ok (.iload 6, 2) := by decide +kernel
theorem dX6_shader_62 : decode cX6_shader 62 = .ok (.invokevirtual 124, 3) := by decide +kernel
theorem dX6_shader_65 : decode cX6_shader 65 = .ok (.ireturn, 1) := by decide +kernel
theorem dX6_shader_66 : decode cX6_shader 66 = .ok (.iinc 4 1, 3) := by decide +kernel
theorem dX6_shader_69 : decode cX6_shader 69 = .ok (.goto (-66), 3) := by decide +kernel
theorem dX6_shader_72 : decode cX6_shader 72 = .ok (.bipush (-9), 2) := by decide +kernel
theorem dX6_shader_74 : decode cX6_shader 74 = .ok (.ireturn, 1) := by decide +kernel
theorem dX6_hoursOf_0 : decode cX6_hoursOf 0 = .ok (.iconst 0, 1) := by decide +kernel
theorem dX6_hoursOf_1 : decode cX6_hoursOf 1 = .ok (.istore_n 3, 1) := by decide +kernel
theorem dX6_hoursOf_2 : decode cX6_hoursOf 2 = .ok (.iconst 0, 1) := by decide +kernel
theorem dX6_hoursOf_3 : decode cX6_hoursOf 3 = .ok (.istore 4, 2) := by decide +kernel
theorem dX6_hoursOf_5 : decode cX6_hoursOf 5 = .ok (.iload 4, 2) := by decide +kernel
theorem dX6_hoursOf_7 : decode cX6_hoursOf 7 = .ok (.iconst 5, 1) := by decide +kernel
theorem dX6_hoursOf_8 : decode cX6_hoursOf 8 = .ok (.if_icmp .ge 33, 3) := by decide +kernel
theorem dX6_hoursOf_11 : decode cX6_hoursOf 11 = .ok (.iload_n 3, 1) := by decide +kernel
theorem dX6_hoursOf_12 : decode cX6_hoursOf 12 = .ok (.aload_n 0, 1) := by decide +kernel
theorem dX6_hoursOf_13 : decode cX6_hoursOf 13 = .ok (.iload_n 1, 1) := by decide +kernel
theorem dX6_hoursOf_14 : decode cX6_hoursOf 14 = .ok (.iload_n 2, 1) := by decide +kernel
theorem dX6_hoursOf_15 : decode cX6_hoursOf 15 = .ok (.iload 4, 2) := by decide +kernel
theorem dX6_hoursOf_17 : decode cX6_hoursOf 17 = .ok (.invokevirtual 155, 3) := by decide +kernel
theorem dX6_hoursOf_20 : decode cX6_hoursOf 20 = .ok (.bipush (-9), 2) := by decide +kernel
theorem dX6_hoursOf_22 : decode cX6_hoursOf 22 = .ok (.if_icmp .ne 10, 3) := by decide +kernel
theorem dX6_hoursOf_25 : decode cX6_hoursOf 25 = .ok (.iconst 1, 1) := by decide +kernel
theorem dX6_hoursOf_26 : decode cX6_hoursOf 26 = .ok (.iload 4, 2) := by decide +kernel
theorem dX6_hoursOf_28 : decode cX6_hoursOf 28 = .ok (.ishl, 1) := by decide +kernel
theorem dX6_hoursOf_29 : decode cX6_hoursOf 29 = .ok (.goto 4, 3) := by decide +kernel
theorem dX6_hoursOf_32 : decode cX6_hoursOf 32 = .ok (.iconst 0, 1) := by decide +kernel
theorem dX6_hoursOf_33 : decode cX6_hoursOf 33 = .ok (.ior, 1) := by decide +kernel
theorem dX6_hoursOf_34 : decode cX6_hoursOf 34 = .ok (.istore_n 3, 1) := by decide +kernel
theorem dX6_hoursOf_35 : decode cX6_hoursOf 35 = .ok (.iinc 4 1, 3) := by decide +kernel
theorem dX6_hoursOf_38 : decode cX6_hoursOf 38 = .ok (.goto (-33), 3) := by decide +kernel
theorem dX6_hoursOf_41 : decode cX6_hoursOf 41 = .ok (.iload_n 3, 1) := by decide +kernel
theorem dX6_hoursOf_42 : decode cX6_hoursOf 42 = .ok (.ireturn, 1) := by decide +kernel
theorem dX6_lampsOver_0 : decode cX6_lampsOver 0 = .ok (.iconst 0, 1) := by decide +kernel
theorem dX6_lampsOver_1 : decode cX6_lampsOver 1 = .ok (.istore_n 3, 1) := by decide +kernel
theorem dX6_lampsOver_2 : decode cX6_lampsOver 2 = .ok (.iload_n 2, 1) := by decide +kernel
theorem dX6_lampsOver_3 : decode cX6_lampsOver 3 = .ok (.iconst 1, 1) := by decide +kernel
theorem dX6_lampsOver_4 : decode cX6_lampsOver 4 = .ok (.iadd, 1) := by decide +kernel
theorem dX6_lampsOver_5 : decode cX6_lampsOver 5 = .ok (.istore 4, 2) := by decide +kernel
theorem dX6_lampsOver_7 : decode cX6_lampsOver 7 = .ok (.iload 4, 2) := by decide +kernel
theorem dX6_lampsOver_9 : decode cX6_lampsOver 9 = .ok (.aload_n 0, 1) := by decide +kernel
theorem dX6_lampsOver_10 : decode cX6_lampsOver 10 = .ok (.getfield 7, 3) := by decide +kernel
theorem dX6_lampsOver_13 : decode cX6_lampsOver 13 = .ok (.iconst 1, 1) := by decide +kernel
theorem dX6_lampsOver_14 : decode cX6_lampsOver 14 = .ok (.iload_n 1, 1) := by decide +kernel
theorem dX6_lampsOver_15 : decode cX6_lampsOver 15 = .ok (.iadd, 1) := by decide +kernel
theorem dX6_lampsOver_16 : decode cX6_lampsOver 16 = .ok (.iaload, 1) := by decide +kernel
theorem dX6_lampsOver_17 : decode cX6_lampsOver 17 = .ok (.if_icmp .ge 28, 3) := by decide +kernel
theorem dX6_lampsOver_20 : decode cX6_lampsOver 20 = .ok (.iload_n 3, 1) := by decide +kernel
theorem dX6_lampsOver_21 : decode cX6_lampsOver 21 = .ok (.aload_n 0, 1) := by decide +kernel
theorem dX6_lampsOver_22 : decode cX6_lampsOver 22 = .ok (.iload_n 1, 1) := by decide +kernel
theorem dX6_lampsOver_23 : decode cX6_lampsOver 23 = .ok (.iload 4, 2) := by decide +kernel
theorem dX6_lampsOver_25 : decode cX6_lampsOver 25 = .ok (.invokevirtual 133, 3) := by decide +kernel
theorem dX6_lampsOver_28 : decode cX6_lampsOver 28 = .ok (.iconst 5, 1) := by decide +kernel
theorem dX6_lampsOver_29 : decode cX6_lampsOver 29 = .ok (.if_icmp .ne 7, 3) := by decide +kernel
theorem dX6_lampsOver_32 : decode cX6_lampsOver 32 = .ok (.iconst 1, 1) := by decide +kernel
theorem dX6_lampsOver_33 : decode cX6_lampsOver 33 = .ok (.goto 4, 3) := by decide +kernel
theorem dX6_lampsOver_36 : decode cX6_lampsOver 36 = .ok (.iconst 0, 1) := by decide +kernel
theorem dX6_lampsOver_37 : decode cX6_lampsOver 37 = .ok (.iadd, 1) := by decide +kernel
theorem dX6_lampsOver_38 : decode cX6_lampsOver 38 = .ok (.istore_n 3, 1) := by decide +kernel
theorem dX6_lampsOver_39 : decode cX6_lampsOver 39 = .ok (.iinc 4 1, 3) := by decide +kernel
theorem dX6_lampsOver_42 : decode cX6_lampsOver 42 = .ok (.goto (-35), 3) := by decide +kernel
theorem dX6_lampsOver_45 : decode cX6_lampsOver 45 = .ok (.iload_n 3, 1) := by decide +kernel
theorem dX6_lampsOver_46 : decode cX6_lampsOver 46 = .ok (.ireturn, 1) := by decide +kernel
theorem dX6_lesser_0 : decode cX6_lesser 0 = .ok (.iload_n 0, 1) := by decide +kernel
theorem dX6_lesser_1 : decode cX6_lesser 1 = .ok (.iload_n 1, 1) := by decide +kernel
theorem dX6_lesser_2 : decode cX6_lesser 2 = .ok (.if_icmp .ge 7, 3) := by decide +kernel
theorem dX6_lesser_5 : decode cX6_lesser 5 = .ok (.iload_n 0, 1) := by decide +kernel
theorem dX6_lesser_6 : decode cX6_lesser 6 = .ok (.goto 4, 3) := by decide +kernel
theorem dX6_lesser_9 : decode cX6_lesser 9 = .ok (.iload_n 1, 1) := by decide +kernel
theorem dX6_lesser_10 : decode cX6_lesser 10 = .ok (.ireturn, 1) := by decide +kernel
theorem dX6_lightBy_0 : decode cX6_lightBy 0 = .ok (.iconst 5, 1) := by decide +kernel
theorem dX6_lightBy_1 : decode cX6_lightBy 1 = .ok (.aload_n 0, 1) := by decide +kernel
theorem dX6_lightBy_2 : decode cX6_lightBy 2 = .ok (.iload_n 1, 1) := by decide +kernel
theorem dX6_lightBy_3 : decode cX6_lightBy 3 = .ok (.iload_n 2, 1) := by decide +kernel
theorem dX6_lightBy_4 : decode cX6_lightBy 4 = .ok (.invokevirtual 159, 3) := by decide +kernel
theorem dX6_lightBy_7 : decode cX6_lightBy 7 = .ok (.iload_n 3, 1) := by decide +kernel
theorem dX6_lightBy_8 : decode cX6_lightBy 8 = .ok (.iconst (-1), 1) := by decide +kernel
theorem dX6_lightBy_9 : decode cX6_lightBy 9 = .ok (.ixor, 1) := by decide +kernel
theorem dX6_lightBy_10 : decode cX6_lightBy 10 = .ok (.iand, 1) := by decide +kernel
theorem dX6_lightBy_11 : decode cX6_lightBy 11 = .ok (.invokestatic 162, 3) := by decide +kernel
theorem dX6_lightBy_14 : decode cX6_lightBy 14 = .ok (.aload_n 0, 1) := by decide +kernel
theorem dX6_lightBy_15 : decode cX6_lightBy 15 = .ok (.iload_n 1, 1) := by decide +kernel
theorem dX6_lightBy_16 : decode cX6_lightBy 16 = .ok (.iload_n 2, 1) := by decide +kernel
theorem dX6_lightBy_17 : decode cX6_lightBy 17 = .ok (.invokevirtual 165, 3) := by decide +kernel
theorem dX6_lightBy_20 : decode cX6_lightBy 20 = .ok (.iadd, 1) := by decide +kernel
theorem dX6_lightBy_21 : decode cX6_lightBy 21 = .ok (.invokestatic 168, 3) := by decide +kernel
theorem dX6_lightBy_24 : decode cX6_lightBy 24 = .ok (.ireturn, 1) := by decide +kernel
theorem dX6_lightOf_0 : decode cX6_lightOf 0 = .ok (.aload_n 0, 1) := by decide +kernel
theorem dX6_lightOf_1 : decode cX6_lightOf 1 = .ok (.aload_n 0, 1) := by decide +kernel
theorem dX6_lightOf_2 : decode cX6_lightOf 2 = .ok (.iload_n 1, 1) := by decide +kernel
theorem dX6_lightOf_3 : decode cX6_lightOf 3 = .ok (.invokevirtual 121, 3) := by decide +kernel
theorem dX6_lightOf_6 : decode cX6_lightOf 6 = .ok (.aload_n 0, 1) := by decide +kernel
theorem dX6_lightOf_7 : decode cX6_lightOf 7 = .ok (.iload_n 1, 1) := by decide +kernel
theorem dX6_lightOf_8 : decode cX6_lightOf 8 = .ok (.invokevirtual 171, 3) := by decide +kernel
theorem dX6_lightOf_11 : decode cX6_lightOf 11 = .ok (.iconst 0, 1) := by decide +kernel
theorem dX6_lightOf_12 : decode cX6_lightOf 12 = .ok (.invokevirtual 174, 3) := by decide +kernel
theorem dX6_lightOf_15 : decode cX6_lightOf 15 = .ok (.ireturn, 1) := by decide +kernel
theorem dX6_allLight_0 : decode cX6_allLight 0 = .ok (.iconst 0, 1) := by decide +kernel
theorem dX6_allLight_1 : decode cX6_allLight 1 = .ok (.istore_n 1, 1) := by decide +kernel
theorem dX6_allLight_2 : decode cX6_allLight 2 = .ok (.iconst 0, 1) := by decide +kernel
theorem dX6_allLight_3 : decode cX6_allLight 3 = .ok (.istore_n 2, 1) := by decide +kernel
theorem dX6_allLight_4 : decode cX6_allLight 4 = .ok (.iload_n 2, 1) := by decide +kernel
theorem dX6_allLight_5 : decode cX6_allLight 5 = .ok (.aload_n 0, 1) := by decide +kernel
theorem dX6_allLight_6 : decode cX6_allLight 6 = .ok (.invokevirtual 177, 3) := by decide +kernel
theorem dX6_allLight_9 : decode cX6_allLight 9 = .ok (.if_icmp .ge 17, 3) := by decide +kernel
theorem dX6_allLight_12 : decode cX6_allLight 12 = .ok (.iload_n 1, 1) := by decide +kernel
theorem dX6_allLight_13 : decode cX6_allLight 13 = .ok (.aload_n 0, 1) := by decide +kernel
theorem dX6_allLight_14 : decode cX6_allLight 14 = .ok (.iload_n 2, 1) := by decide +kernel
theorem dX6_allLight_15 : decode cX6_allLight 15 = .ok (.invokevirtual 181, 3) := by decide +kernel
theorem dX6_allLight_18 : decode cX6_allLight 18 = .ok (.iadd, 1) := by decide +kernel
theorem dX6_allLight_19 : decode cX6_allLight 19 = .ok (.istore_n 1, 1) := by decide +kernel
theorem dX6_allLight_20 : decode cX6_allLight 20 = .ok (.iinc 2 1, 3) := by decide +kernel
theorem dX6_allLight_23 : decode cX6_allLight 23 = .ok (.goto (-19), 3) := by decide +kernel
theorem dX6_allLight_26 : decode cX6_allLight 26 = .ok (.iload_n 1, 1) := by decide +kernel
theorem dX6_allLight_27 : decode cX6_allLight 27 = .ok (.ireturn, 1) := by decide +kernel
theorem dX6_layLamps_0 : decode cX6_layLamps 0 = .ok (.iconst 0, 1) := by decide +kernel
theorem dX6_layLamps_1 : decode cX6_layLamps 1 = .ok (.istore_n 1, 1) := by decide +kernel
theorem dX6_layLamps_2 : decode cX6_layLamps 2 = .ok (.iload_n 1, 1) := by decide +kernel
theorem dX6_layLamps_3 : decode cX6_layLamps 3 = .ok (.sipush 144, 3) := by decide +kernel
theorem dX6_layLamps_6 : decode cX6_layLamps 6 = .ok (.if_icmp .ge 16, 3) := by decide +kernel
theorem dX6_layLamps_9 : decode cX6_layLamps 9 = .ok (.aload_n 0, 1) := by decide +kernel
theorem dX6_layLamps_10 : decode cX6_layLamps 10 = .ok (.getfield 38, 3) := by decide +kernel
theorem dX6_layLamps_13 : decode cX6_layLamps 13 = .ok (.iload_n 1, 1) := by decide +kernel
theorem dX6_layLamps_14 : decode cX6_layLamps 14 = .ok (.iconst 0, 1) := by decide +kernel
theorem dX6_layLamps_15 : decode cX6_layLamps 15 = .ok (.iastore, 1) := by decide +kernel
theorem dX6_layLamps_16 : decode cX6_layLamps 16 = .ok (.iinc 1 1, 3) := by decide +kernel
theorem dX6_layLamps_19 : decode cX6_layLamps 19 = .ok (.goto (-17), 3) := by decide +kernel
theorem dX6_layLamps_22 : decode cX6_layLamps 22 = .ok (.iconst 0, 1) := by decide +kernel
theorem dX6_layLamps_23 : decode cX6_layLamps 23 = .ok (.istore_n 1, 1) := by decide +kernel
theorem dX6_layLamps_24 : decode cX6_layLamps 24 = .ok (.iload_n 1, 1) := by decide +kernel
theorem dX6_layLamps_25 : decode cX6_layLamps 25 = .ok (.aload_n 0, 1) := by decide +kernel
theorem dX6_layLamps_26 : decode cX6_layLamps 26 = .ok (.invokevirtual 177, 3) := by decide +kernel
theorem dX6_layLamps_29 : decode cX6_layLamps 29 = .ok (.if_icmp .ge 116, 3) := by decide +kernel
theorem dX6_layLamps_32 : decode cX6_layLamps 32 = .ok (.aload_n 0, 1) := by decide +kernel
theorem dX6_layLamps_33 : decode cX6_layLamps 33 = .ok (.iload_n 1, 1) := by decide +kernel
theorem dX6_layLamps_34 : decode cX6_layLamps 34 = .ok (.invokevirtual 121, 3) := by decide +kernel
theorem dX6_layLamps_37 : decode cX6_layLamps 37 = .ok (.istore_n 2, 1) := by decide +kernel
theorem dX6_layLamps_38 : decode cX6_layLamps 38 = .ok (.aload_n 0, 1) := by decide +kernel
theorem dX6_layLamps_39 : decode cX6_layLamps 39 = .ok (.iload_n 1, 1) := by decide +kernel
theorem dX6_layLamps_40 : decode cX6_layLamps 40 = .ok (.invokevirtual 171, 3) := by decide +kernel
theorem dX6_layLamps_43 : decode cX6_layLamps 43 = .ok (.istore_n 3, 1) := by decide +kernel
theorem dX6_layLamps_44 : decode cX6_layLamps 44 = .ok (.aload_n 0, 1) := by decide +kernel
theorem dX6_layLamps_45 : decode cX6_layLamps 45 = .ok (.iload_n 2, 1) := by decide +kernel
theorem dX6_layLamps_46 : decode cX6_layLamps 46 = .ok (.iload_n 3, 1) := by decide +kernel
theorem dX6_layLamps_47 : decode cX6_layLamps 47 = .ok (.invokevirtual 133, 3) := by decide +kernel
theorem dX6_layLamps_50 : decode cX6_layLamps 50 = .ok (.iconst 3, 1) := by decide +kernel
theorem dX6_layLamps_51 : decode cX6_layLamps 51 = .ok (.if_icmp .ne 7, 3) := by decide +kernel
theorem dX6_layLamps_54 : decode cX6_layLamps 54 = .ok (.iconst 2, 1) := by decide +kernel
theorem dX6_layLamps_55 : decode cX6_layLamps 55 = .ok (.goto 18, 3) := by decide +kernel
theorem dX6_layLamps_58 : decode cX6_layLamps 58 = .ok (.aload_n 0, 1) := by decide +kernel
theorem dX6_layLamps_59 : decode cX6_layLamps 59 = .ok (.iload_n 2, 1) := by decide +kernel
theorem dX6_layLamps_60 : decode cX6_layLamps 60 = .ok (.iload_n 3, 1) := by decide +kernel
theorem dX6_layLamps_61 : decode cX6_layLamps 61 = .ok (.invokevirtual 133, 3) := by decide +kernel
theorem dX6_layLamps_64 : decode cX6_layLamps 64 = .ok (.iconst 4, 1) := by decide +kernel
theorem dX6_layLamps_65 : decode cX6_layLamps 65 = .ok (.if_icmp .ne 7, 3) := by decide +kernel
theorem dX6_layLamps_68 : decode cX6_layLamps 68 = .ok (.iconst 0, 1) := by decide +kernel
theorem dX6_layLamps_69 : decode cX6_layLamps 69 = .ok (.goto 4, 3) := by decide +kernel
theorem dX6_layLamps_72 : decode cX6_layLamps 72 = .ok (.iconst 1, 1) := by decide +kernel
theorem dX6_layLamps_73 : decode cX6_layLamps 73 = .ok (.istore 4, 2) := by decide +kernel
theorem dX6_layLamps_75 : decode cX6_layLamps 75 = .ok (.iconst 0, 1) := by decide +kernel
theorem dX6_layLamps_76 : decode cX6_layLamps 76 = .ok (.istore 5, 2) := by decide +kernel
theorem dX6_layLamps_78 : decode cX6_layLamps 78 = .ok (.iload 5, 2) := by decide +kernel
theorem dX6_layLamps_80 : decode cX6_layLamps 80 = .ok (.iconst 5, 1) := by decide +kernel
theorem dX6_layLamps_81 : decode cX6_layLamps 81 = .ok (.if_icmp .ge 58, 3) := by decide +kernel
theorem dX6_layLamps_84 : decode cX6_layLamps 84 = .ok (.aload_n 0, 1) := by decide +kernel
theorem dX6_layLamps_85 : decode cX6_layLamps 85 = .ok (.iload_n 2, 1) := by decide +kernel
theorem dX6_layLamps_86 : decode cX6_layLamps 86 = .ok (.iload_n 3, 1) := by decide +kernel
theorem dX6_layLamps_87 : decode cX6_layLamps 87 = .ok (.iload 5, 2) := by decide +kernel
theorem dX6_layLamps_89 : decode cX6_layLamps 89 = .ok (.invokevirtual 155, 3) := by decide +kernel
theorem dX6_layLamps_92 : decode cX6_layLamps 92 = .ok (.istore 6, 2) := by decide +kernel
theorem dX6_layLamps_94 : decode cX6_layLamps 94 = .ok (.aload_n 0, 1) := by decide +kernel
theorem dX6_layLamps_95 : decode cX6_layLamps 95 = .ok (.getfield 38, 3) := by decide +kernel
theorem dX6_layLamps_98 : decode cX6_layLamps 98 = .ok (.iload 6, 2) := by decide +kernel
theorem dX6_layLamps_100 : decode cX6_layLamps 100 = .ok (.bipush (-9), 2) := by decide +kernel
theorem dX6_layLamps_102 : decode cX6_layLamps 102 = .ok (.if_icmp .ne 7, 3) := by decide +kernel
theorem dX6_layLamps_105 : decode cX6_layLamps 105 = .ok (.iconst 0, 1) := by decide +kernel
theorem dX6_layLamps_106 : decode cX6_layLamps 106 = .ok (.goto 10, 3) := by decide +kernel
theorem dX6_layLamps_109 : decode cX6_layLamps 109 = .ok (.bipush 12, 2) := by decide +kernel
theorem dX6_layLamps_111 : decode cX6_layLamps 111 = .ok (.iload 6, 2) := by decide +kernel
theorem dX6_layLamps_113 : decode cX6_layLamps 113 = .ok (.imul, 1) := by decide +kernel
theorem dX6_layLamps_114 : decode cX6_layLamps 114 = .ok (.iload_n 1, 1) := by decide +kernel
theorem dX6_layLamps_115 : decode cX6_layLamps 115 = .ok (.iadd, 1) := by decide +kernel
theorem dX6_layLamps_116 : decode cX6_layLamps 116 = .ok (.dup2, 1) := by decide +kernel
theorem dX6_layLamps_117 : decode cX6_layLamps 117 = .ok (.iaload, 1) := by decide +kernel
theorem dX6_layLamps_118 : decode cX6_layLamps 118 = .ok (.iload 6, 2) := by decide +kernel
theorem dX6_layLamps_120 : decode cX6_layLamps 120 = .ok (.bipush (-9), 2) := by decide +kernel
theorem dX6_layLamps_122 : decode cX6_layLamps 122 = .ok (.if_icmp .ne 7, 3) := by decide +kernel
theorem dX6_layLamps_125 : decode cX6_layLamps 125 = .ok (.iconst 0, 1) := by decide +kernel
theorem dX6_layLamps_126 : decode cX6_layLamps 126 = .ok (.goto 5, 3) := by decide +kernel
theorem dX6_layLamps_129 : decode cX6_layLamps 129 = .ok (.iload 4, 2) := by decide +kernel
theorem dX6_layLamps_131 : decode cX6_layLamps 131 = .ok (.iadd, 1) := by decide +kernel
theorem dX6_layLamps_132 : decode cX6_layLamps 132 = .ok (.iastore, 1) := by decide +kernel
theorem dX6_layLamps_133 : decode cX6_layLamps 133 = .ok (.iinc 5 1, 3) := by decide +kernel
theorem dX6_layLamps_136 : decode cX6_layLamps 136 = .ok (.goto (-58), 3) := by decide +kernel
theorem dX6_layLamps_139 : decode cX6_layLamps 139 = .ok (.iinc 1 1, 3) := by decide +kernel
theorem dX6_layLamps_142 : decode cX6_layLamps 142 = .ok (.goto (-118), 3) := by decide +kernel
theorem dX6_layLamps_145 : decode cX6_layLamps 145 = .ok (.return_, 1) := by decide +kernel
theorem dX6_owesAll_0 : decode cX6_owesAll 0 = .ok (.iconst 0, 1) := by decide +kernel
theorem dX6_owesAll_1 : decode cX6_owesAll 1 = .ok (.istore_n 2, 1) := by decide +kernel
theorem dX6_owesAll_2 : decode cX6_owesAll 2 = .ok (.iconst 0, 1) := by decide +kernel
theorem dX6_owesAll_3 : decode cX6_owesAll 3 = .ok (.istore_n 3, 1) := by decide +kernel
theorem dX6_owesAll_4 : decode cX6_owesAll 4 = .ok (.iload_n 3, 1) := by decide +kernel
theorem dX6_owesAll_5 : decode cX6_owesAll 5 = .ok (.bipush 12, 2) := by decide +kernel
theorem dX6_owesAll_7 : decode cX6_owesAll 7 = .ok (.if_icmp .ge 23, 3) := by decide +kernel
theorem dX6_owesAll_10 : decode cX6_owesAll 10 = .ok (.iload_n 2, 1) := by decide +kernel
theorem dX6_owesAll_11 : decode cX6_owesAll 11 = .ok (.aload_n 0, 1) := by decide +kernel
theorem dX6_owesAll_12 : decode cX6_owesAll 12 = .ok (.getfield 38, 3) := by decide +kernel
theorem dX6_owesAll_15 : decode cX6_owesAll 15 = .ok (.bipush 12, 2) := by decide +kernel
theorem dX6_owesAll_17 : decode cX6_owesAll 17 = .ok (.iload_n 1, 1) := by decide +kernel
theorem dX6_owesAll_18 : decode cX6_owesAll 18 = .ok (.imul, 1) := by decide +kernel
theorem dX6_owesAll_19 : decode cX6_owesAll 19 = .ok (.iload_n 3, 1) := by decide +kernel
theorem dX6_owesAll_20 : decode cX6_owesAll 20 = .ok (.iadd, 1) := by decide +kernel
theorem dX6_owesAll_21 : decode cX6_owesAll 21 = .ok (.iaload, 1) := by decide +kernel
theorem dX6_owesAll_22 : decode cX6_owesAll 22 = .ok (.iadd, 1) := by decide +kernel
theorem dX6_owesAll_23 : decode cX6_owesAll 23 = .ok (.istore_n 2, 1) := by decide +kernel
theorem dX6_owesAll_24 : decode cX6_owesAll 24 = .ok (.iinc 3 1, 3) := by decide +kernel
theorem dX6_owesAll_27 : decode cX6_owesAll 27 = .ok (.goto (-23), 3) := by decide +kernel
theorem dX6_owesAll_30 : decode cX6_owesAll 30 = .ok (.iload_n 2, 1) := by decide +kernel
theorem dX6_owesAll_31 : decode cX6_owesAll 31 = .ok (.ireturn, 1) := by decide +kernel
theorem dX6_owedAll_0 : decode cX6_owedAll 0 = .ok (.iconst 0, 1) := by decide +kernel
theorem dX6_owedAll_1 : decode cX6_owedAll 1 = .ok (.istore_n 2, 1) := by decide +kernel
theorem dX6_owedAll_2 : decode cX6_owedAll 2 = .ok (.iconst 0, 1) := by decide +kernel
theorem dX6_owedAll_3 : decode cX6_owedAll 3 = .ok (.istore_n 3, 1) := by decide +kernel
theorem dX6_owedAll_4 : decode cX6_owedAll 4 = .ok (.iload_n 3, 1) := by decide +kernel
theorem dX6_owedAll_5 : decode cX6_owedAll 5 = .ok (.bipush 12, 2) := by decide +kernel
theorem dX6_owedAll_7 : decode cX6_owedAll 7 = .ok (.if_icmp .ge 23, 3) := by decide +kernel
theorem dX6_owedAll_10 : decode cX6_owedAll 10 = .ok (.iload_n 2, 1) := by decide +kernel
theorem dX6_owedAll_11 : decode cX6_owedAll 11 = .ok (.aload_n 0, 1) := by decide +kernel
theorem dX6_owedAll_12 : decode cX6_owedAll 12 = .ok (.getfield 38, 3) := by decide +kernel
theorem dX6_owedAll_15 : decode cX6_owedAll 15 = .ok (.bipush 12, 2) := by decide +kernel
theorem dX6_owedAll_17 : decode cX6_owedAll 17 = .ok (.iload_n 3, 1) := by decide +kernel
theorem dX6_owedAll_18 : decode cX6_owedAll 18 = .ok (.imul, 1) := by decide +kernel
theorem dX6_owedAll_19 : decode cX6_owedAll 19 = .ok (.iload_n 1, 1) := by decide +kernel
theorem dX6_owedAll_20 : decode cX6_owedAll 20 = .ok (.iadd, 1) := by decide +kernel
theorem dX6_owedAll_21 : decode cX6_owedAll 21 = .ok (.iaload, 1) := by decide +kernel
theorem dX6_owedAll_22 : decode cX6_owedAll 22 = .ok (.iadd, 1) := by decide +kernel
theorem dX6_owedAll_23 : decode cX6_owedAll 23 = .ok (.istore_n 2, 1) := by decide +kernel
theorem dX6_owedAll_24 : decode cX6_owedAll 24 = .ok (.iinc 3 1, 3) := by decide +kernel
theorem dX6_owedAll_27 : decode cX6_owedAll 27 = .ok (.goto (-23), 3) := by decide +kernel
theorem dX6_owedAll_30 : decode cX6_owedAll 30 = .ok (.iload_n 2, 1) := by decide +kernel
theorem dX6_owedAll_31 : decode cX6_owedAll 31 = .ok (.ireturn, 1) := by decide +kernel
theorem dX6_allLamps_0 : decode cX6_allLamps 0 = .ok (.aload_n 0, 1) := by decide +kernel
theorem dX6_allLamps_1 : decode cX6_allLamps 1 = .ok (.invokevirtual 184, 3) := by decide +kernel
theorem dX6_allLamps_4 : decode cX6_allLamps 4 = .ok (.iconst 0, 1) := by decide +kernel
theorem dX6_allLamps_5 : decode cX6_allLamps 5 = .ok (.istore_n 1, 1) := by decide +kernel
theorem dX6_allLamps_6 : decode cX6_allLamps 6 = .ok (.iconst 0, 1) := by decide +kernel
theorem dX6_allLamps_7 : decode cX6_allLamps 7 = .ok (.istore_n 2, 1) := by decide +kernel
theorem dX6_allLamps_8 : decode cX6_allLamps 8 = .ok (.iload_n 2, 1) := by decide +kernel
theorem dX6_allLamps_9 : decode cX6_allLamps 9 = .ok (.sipush 144, 3) := by decide +kernel
theorem dX6_allLamps_12 : decode cX6_allLamps 12 = .ok (.if_icmp .ge 18, 3) := by decide +kernel
theorem dX6_allLamps_15 : decode cX6_allLamps 15 = .ok (.iload_n 1, 1) := by decide +kernel
theorem dX6_allLamps_16 : decode cX6_allLamps 16 = .ok (.aload_n 0, 1) := by decide +kernel
theorem dX6_allLamps_17 : decode cX6_allLamps 17 = .ok (.getfield 38, 3) := by decide +kernel
theorem dX6_allLamps_20 : decode cX6_allLamps 20 = .ok (.iload_n 2, 1) := by decide +kernel
theorem dX6_allLamps_21 : decode cX6_allLamps 21 = .ok (.iaload, 1) := by decide +kernel
theorem dX6_allLamps_22 : decode cX6_allLamps 22 = .ok (.iadd, 1) := by decide +kernel
theorem dX6_allLamps_23 : decode cX6_allLamps 23 = .ok (.istore_n 1, 1) := by decide +kernel
theorem dX6_allLamps_24 : decode cX6_allLamps 24 = .ok (.iinc 2 1, 3) := by decide +kernel
theorem dX6_allLamps_27 : decode cX6_allLamps 27 = .ok (.goto (-19), 3) := by decide +kernel
theorem dX6_allLamps_30 : decode cX6_allLamps 30 = .ok (.iload_n 1, 1) := by decide +kernel
theorem dX6_allLamps_31 : decode cX6_allLamps 31 = .ok (.ireturn, 1) := by decide +kernel
theorem dX6_houseTells_0 : decode cX6_houseTells 0 = .ok (.aload_n 0, 1) := by decide +kernel
theorem dX6_houseTells_1 : decode cX6_houseTells 1 = .ok (.iload_n 1, 1) := by decide +kernel
theorem dX6_houseTells_2 : decode cX6_houseTells 2 = .ok (.iload_n 2, 1) := by decide +kernel
theorem dX6_houseTells_3 : decode cX6_houseTells 3 = .ok (.invokevirtual 124, 3) := by decide +kernel
theorem dX6_houseTells_6 : decode cX6_houseTells 6 = .ok (.istore 4, 2) := by decide +kernel
theorem dX6_houseTells_8 : decode cX6_houseTells 8 = .ok (.iload_n 3, 1) := by decide +kernel
theorem dX6_houseTells_9 : decode cX6_houseTells 9 = .ok (.tableswitch 77 0 5 #[39, 42, 49, 56, 63, 70], 39) := by decide +kernel
theorem dX6_houseTells_48 : decode cX6_houseTells 48 = .ok (.iload 4, 2) := by decide +kernel
theorem dX6_houseTells_50 : decode cX6_houseTells 50 = .ok (.ireturn, 1) := by decide +kernel
theorem dX6_houseTells_51 : decode cX6_houseTells 51 = .ok (.aload_n 0, 1) := by decide +kernel
theorem dX6_houseTells_52 : decode cX6_houseTells 52 = .ok (.iload_n 1, 1) := by decide +kernel
theorem dX6_houseTells_53 : decode cX6_houseTells 53 = .ok (.iload_n 2, 1) := by decide +kernel
theorem dX6_houseTells_54 : decode cX6_houseTells 54 = .ok (.invokevirtual 133, 3) := by decide +kernel
theorem dX6_houseTells_57 : decode cX6_houseTells 57 = .ok (.ireturn, 1) := by decide +kernel
theorem dX6_houseTells_58 : decode cX6_houseTells 58 = .ok (.aload_n 0, 1) := by decide +kernel
theorem dX6_houseTells_59 : decode cX6_houseTells 59 = .ok (.iload_n 1, 1) := by decide +kernel
theorem dX6_houseTells_60 : decode cX6_houseTells 60 = .ok (.iload_n 2, 1) := by decide +kernel
theorem dX6_houseTells_61 : decode cX6_houseTells 61 = .ok (.invokevirtual 142, 3) := by decide +kernel
theorem dX6_houseTells_64 : decode cX6_houseTells 64 = .ok (.ireturn, 1) := by decide +kernel
theorem dX6_houseTells_65 : decode cX6_houseTells 65 = .ok (.aload_n 0, 1) := by decide +kernel
theorem dX6_houseTells_66 : decode cX6_houseTells 66 = .ok (.iload_n 1, 1) := by decide +kernel
theorem dX6_houseTells_67 : decode cX6_houseTells 67 = .ok (.iload_n 2, 1) := by decide +kernel
theorem dX6_houseTells_68 : decode cX6_houseTells 68 = .ok (.invokevirtual 139, 3) := by decide +kernel
theorem dX6_houseTells_71 : decode cX6_houseTells 71 = .ok (.ireturn, 1) := by decide +kernel
theorem dX6_houseTells_72 : decode cX6_houseTells 72 = .ok (.aload_n 0, 1) := by decide +kernel
theorem dX6_houseTells_73 : decode cX6_houseTells 73 = .ok (.iload 4, 2) := by decide +kernel
theorem dX6_houseTells_75 : decode cX6_houseTells 75 = .ok (.invokevirtual 181, 3) := by decide +kernel
theorem dX6_houseTells_78 : decode cX6_houseTells 78 = .ok (.ireturn, 1) := by decide +kernel
theorem dX6_houseTells_79 : decode cX6_houseTells 79 = .ok (.aload_n 0, 1) := by decide +kernel
theorem dX6_houseTells_80 : decode cX6_houseTells 80 = .ok (.iload 4, 2) := by decide +kernel
theorem dX6_houseTells_82 : decode cX6_houseTells 82 = .ok (.invokevirtual 187, 3) := by decide +kernel
theorem dX6_houseTells_85 : decode cX6_houseTells 85 = .ok (.ireturn, 1) := by decide +kernel
theorem dX6_houseTells_86 : decode cX6_houseTells 86 = .ok (.aload_n 0, 1) := by decide +kernel
theorem dX6_houseTells_87 : decode cX6_houseTells 87 = .ok (.iload 4, 2) := by decide +kernel
theorem dX6_houseTells_89 : decode cX6_houseTells 89 = .ok (.invokevirtual 190, 3) := by decide +kernel
theorem dX6_houseTells_92 : decode cX6_houseTells 92 = .ok (.ireturn, 1) := by decide +kernel
theorem dX6_house_0 : decode cX6_house 0 = .ok (.aload_n 0, 1) := by decide +kernel
theorem dX6_house_1 : decode cX6_house 1 = .ok (.iload_n 1, 1) := by decide +kernel
theorem dX6_house_2 : decode cX6_house 2 = .ok (.iload_n 2, 1) := by decide +kernel
theorem dX6_house_3 : decode cX6_house 3 = .ok (.invokevirtual 193, 3) := by decide +kernel
theorem dX6_house_6 : decode cX6_house 6 = .ok (.ifCond .eq 15, 3) := by decide +kernel
theorem dX6_house_9 : decode cX6_house 9 = .ok (.iload_n 3, 1) := by decide +kernel
theorem dX6_house_10 : decode cX6_house 10 = .ok (.i2l, 1) := by decide +kernel
theorem dX6_house_11 : decode cX6_house 11 = .ok (.lconst 0, 1) := by decide +kernel
theorem dX6_house_12 : decode cX6_house 12 = .ok (.ldc2_w 196, 3) := by decide +kernel
theorem dX6_house_15 : decode cX6_house 15 = .ok (.invokestatic 63, 3) := by decide +kernel
theorem dX6_house_18 : decode cX6_house 18 = .ok (.ifCond .ne 5, 3) := by decide +kernel
theorem dX6_house_21 : decode cX6_house 21 = .ok (.iconst (-1), 1) := by decide +kernel
theorem dX6_house_22 : decode cX6_house 22 = .ok (.ireturn, 1) := by decide +kernel
theorem dX6_house_23 : decode cX6_house 23 = .ok (.aload_n 0, 1) := by decide +kernel
theorem dX6_house_24 : decode cX6_house 24 = .ok (.iload_n 1, 1) := by decide +kernel
theorem dX6_house_25 : decode cX6_house 25 = .ok (.iload_n 2, 1) := by decide +kernel
theorem dX6_house_26 : decode cX6_house 26 = .ok (.invokevirtual 151, 3) := by decide +kernel
theorem dX6_house_29 : decode cX6_house 29 = .ok (.ifCond .ne 9, 3) := by decide +kernel
theorem dX6_house_32 : decode cX6_house 32 = .ok (.aload_n 0, 1) := by decide +kernel
theorem dX6_house_33 : decode cX6_house 33 = .ok (.iconst 2, 1) := by decide +kernel
theorem dX6_house_34 : decode cX6_house 34 = .ok (.invokevirtual 73, 3) := by decide +kernel
theorem dX6_house_37 : decode cX6_house 37 = .ok (.ireturn, 1) := by decide +kernel
theorem dX6_house_38 : decode cX6_house 38 = .ok (.aload_n 0, 1) := by decide +kernel
theorem dX6_house_39 : decode cX6_house 39 = .ok (.invokevirtual 184, 3) := by decide +kernel
theorem dX6_house_42 : decode cX6_house 42 = .ok (.aload_n 0, 1) := by decide +kernel
theorem dX6_house_43 : decode cX6_house 43 = .ok (.aload_n 0, 1) := by decide +kernel
theorem dX6_house_44 : decode cX6_house 44 = .ok (.iload_n 1, 1) := by decide +kernel
theorem dX6_house_45 : decode cX6_house 45 = .ok (.iload_n 2, 1) := by decide +kernel
theorem dX6_house_46 : decode cX6_house 46 = .ok (.iload_n 3, 1) := by decide +kernel
theorem dX6_house_47 : decode cX6_house 47 = .ok (.invokevirtual 198, 3) := by decide +kernel
theorem dX6_house_50 : decode cX6_house 50 = .ok (.iconst 1, 1) := by decide +kernel
theorem dX6_house_51 : decode cX6_house 51 = .ok (.invokevirtual 81, 3) := by decide +kernel
theorem dX6_house_54 : decode cX6_house 54 = .ok (.ireturn, 1) := by decide +kernel
theorem dX6_isOf_0 : decode cX6_isOf 0 = .ok (.iload_n 0, 1) := by decide +kernel
theorem dX6_isOf_1 : decode cX6_isOf 1 = .ok (.iload_n 1, 1) := by decide +kernel
theorem dX6_isOf_2 : decode cX6_isOf 2 = .ok (.if_icmp .eq 23, 3) := by decide +kernel
theorem dX6_isOf_5 : decode cX6_isOf 5 = .ok (.iload_n 1, 1) := by decide +kernel
theorem dX6_isOf_6 : decode cX6_isOf 6 = .ok (.iconst 1, 1) := by decide +kernel
theorem dX6_isOf_7 : decode cX6_isOf 7 = .ok (.if_icmp .ne 8, 3) := by decide +kernel
theorem dX6_isOf_10 : decode cX6_isOf 10 = .ok (.iload_n 0, 1) := by decide +kernel
theorem dX6_isOf_11 : decode cX6_isOf 11 = .ok (.iconst 4, 1) := by decide +kernel
theorem dX6_isOf_12 : decode cX6_isOf 12 = .ok (.if_icmp .eq 13, 3) := by decide +kernel
theorem dX6_isOf_15 : decode cX6_isOf 15 = .ok (.iload_n 1, 1) := by decide +kernel
theorem dX6_isOf_16 : decode cX6_isOf 16 = .ok (.iconst 2, 1) := by decide +kernel
theorem dX6_isOf_17 : decode cX6_isOf 17 = .ok (.if_icmp .ne 12, 3) := by decide +kernel
theorem dX6_isOf_20 : decode cX6_isOf 20 = .ok (.iload_n 0, 1) := by decide +kernel
theorem dX6_isOf_21 : decode cX6_isOf 21 = .ok (.iconst 5, 1) := by decide +kernel
theorem dX6_isOf_22 : decode cX6_isOf 22 = .ok (.if_icmp .ne 7, 3) := by decide +kernel
theorem dX6_isOf_25 : decode cX6_isOf 25 = .ok (.iconst 1, 1) := by decide +kernel
theorem dX6_isOf_26 : decode cX6_isOf 26 = .ok (.goto 4, 3) := by decide +kernel
theorem dX6_isOf_29 : decode cX6_isOf 29 = .ok (.iconst 0, 1) := by decide +kernel
theorem dX6_isOf_30 : decode cX6_isOf 30 = .ok (.ireturn, 1) := by decide +kernel
theorem dX6_isOnWay_0 : decode cX6_isOnWay 0 = .ok (.iconst 0, 1) := by decide +kernel
theorem dX6_isOnWay_1 : decode cX6_isOnWay 1 = .ok (.istore 5, 2) := by decide +kernel
theorem dX6_isOnWay_3 : decode cX6_isOnWay 3 = .ok (.iconst 1, 1) := by decide +kernel
theorem dX6_isOnWay_4 : decode cX6_isOnWay 4 = .ok (.istore 6, 2) := by decide +kernel
theorem dX6_isOnWay_6 : decode cX6_isOnWay 6 = .ok (.iload 6, 2) := by decide +kernel
theorem dX6_isOnWay_8 : decode cX6_isOnWay 8 = .ok (.bipush 7, 2) := by decide +kernel
theorem dX6_isOnWay_10 : decode cX6_isOnWay 10 = .ok (.if_icmp .ge 49, 3) := by decide +kernel
theorem dX6_isOnWay_13 : decode cX6_isOnWay 13 = .ok (.iload 5, 2) := by decide +kernel
theorem dX6_isOnWay_15 : decode cX6_isOnWay 15 = .ok (.ifCond .ne 31, 3) := by decide +kernel
theorem dX6_isOnWay_18 : decode cX6_isOnWay 18 = .ok (.iload_n 2, 1) := by decide +kernel
theorem dX6_isOnWay_19 : decode cX6_isOnWay 19 = .ok (.iload_n 0, 1) := by decide +kernel
theorem dX6_isOnWay_20 : decode cX6_isOnWay 20 = .ok (.iload 6, 2) := by decide +kernel
theorem dX6_isOnWay_22 : decode cX6_isOnWay 22 = .ok (.iload 4, 2) := by decide +kernel
theorem dX6_isOnWay_24 : decode cX6_isOnWay 24 = .ok (.invokestatic 145, 3) := by decide +kernel
theorem dX6_isOnWay_27 : decode cX6_isOnWay 27 = .ok (.imul, 1) := by decide +kernel
theorem dX6_isOnWay_28 : decode cX6_isOnWay 28 = .ok (.iadd, 1) := by decide +kernel
theorem dX6_isOnWay_29 : decode cX6_isOnWay 29 = .ok (.if_icmp .ne 21, 3) := by decide +kernel
theorem dX6_isOnWay_32 : decode cX6_isOnWay 32 = .ok (.iload_n 3, 1) := by decide +kernel
theorem dX6_isOnWay_33 : decode cX6_isOnWay 33 = .ok (.iload_n 1, 1) := by decide +kernel
theorem dX6_isOnWay_34 : decode cX6_isOnWay 34 = .ok (.iload 6, 2) := by decide +kernel
theorem dX6_isOnWay_36 : decode cX6_isOnWay 36 = .ok (.iload 4, 2) := by decide +kernel
theorem dX6_isOnWay_38 : decode cX6_isOnWay 38 = .ok (.invokestatic 148, 3) := by decide +kernel
theorem dX6_isOnWay_41 : decode cX6_isOnWay 41 = .ok (.imul, 1) := by decide +kernel
theorem dX6_isOnWay_42 : decode cX6_isOnWay 42 = .ok (.iadd, 1) := by decide +kernel
theorem dX6_isOnWay_43 : decode cX6_isOnWay 43 = .ok (.if_icmp .ne 7, 3) := by decide +kernel
theorem dX6_isOnWay_46 : decode cX6_isOnWay 46 = .ok (.iconst 1, 1) := by decide +kernel
theorem dX6_isOnWay_47 : decode cX6_isOnWay 47 = .ok (.goto 4, 3) := by decide +kernel
theorem dX6_isOnWay_50 : decode cX6_isOnWay 50 = .ok (.iconst 0, 1) := by decide +kernel
theorem dX6_isOnWay_51 : decode cX6_isOnWay 51 = .ok (.istore 5, 2) := by decide +kernel
theorem dX6_isOnWay_53 : decode cX6_isOnWay 53 = .ok (.iinc 6 1, 3) := by decide +kernel
theorem dX6_isOnWay_56 : decode cX6_isOnWay 56 = .ok (.goto (-50), 3) := by decide +kernel
theorem dX6_isOnWay_59 : decode cX6_isOnWay 59 = .ok (.iload 5, 2) := by decide +kernel
theorem dX6_isOnWay_61 : decode cX6_isOnWay 61 = .ok (.ireturn, 1) := by decide +kernel
theorem dX6_couldShade_0 : decode cX6_couldShade 0 = .ok (.iconst 0, 1) := by decide +kernel
theorem dX6_couldShade_1 : decode cX6_couldShade 1 = .ok (.istore_n 3, 1) := by decide +kernel
theorem dX6_couldShade_2 : decode cX6_couldShade 2 = .ok (.iconst 0, 1) := by decide +kernel
theorem dX6_couldShade_3 : decode cX6_couldShade 3 = .ok (.istore 4, 2) := by decide +kernel
theorem dX6_couldShade_5 : decode cX6_couldShade 5 = .ok (.iload 4, 2) := by decide +kernel
theorem dX6_couldShade_7 : decode cX6_couldShade 7 = .ok (.aload_n 0, 1) := by decide +kernel
theorem dX6_couldShade_8 : decode cX6_couldShade 8 = .ok (.getfield 7, 3) := by decide +kernel
theorem dX6_couldShade_11 : decode cX6_couldShade 11 = .ok (.iconst 0, 1) := by decide +kernel
theorem dX6_couldShade_12 : decode cX6_couldShade 12 = .ok (.iaload, 1) := by decide +kernel
theorem dX6_couldShade_13 : decode cX6_couldShade 13 = .ok (.if_icmp .ge 84, 3) := by decide +kernel
theorem dX6_couldShade_16 : decode cX6_couldShade 16 = .ok (.iconst 0, 1) := by decide +kernel
theorem dX6_couldShade_17 : decode cX6_couldShade 17 = .ok (.istore 5, 2) := by decide +kernel
theorem dX6_couldShade_19 : decode cX6_couldShade 19 = .ok (.iload 5, 2) := by decide +kernel
theorem dX6_couldShade_21 : decode cX6_couldShade 21 = .ok (.aload_n 0, 1) := by decide +kernel
theorem dX6_couldShade_22 : decode cX6_couldShade 22 = .ok (.getfield 7, 3) := by decide +kernel
theorem dX6_couldShade_25 : decode cX6_couldShade 25 = .ok (.iconst 1, 1) := by decide +kernel
theorem dX6_couldShade_26 : decode cX6_couldShade 26 = .ok (.iload 4, 2) := by decide +kernel
theorem dX6_couldShade_28 : decode cX6_couldShade 28 = .ok (.iadd, 1) := by decide +kernel
theorem dX6_couldShade_29 : decode cX6_couldShade 29 = .ok (.iaload, 1) := by decide +kernel
theorem dX6_couldShade_30 : decode cX6_couldShade 30 = .ok (.if_icmp .ge 61, 3) := by decide +kernel
theorem dX6_couldShade_33 : decode cX6_couldShade 33 = .ok (.iconst 0, 1) := by decide +kernel
theorem dX6_couldShade_34 : decode cX6_couldShade 34 = .ok (.istore 6, 2) := by decide +kernel
theorem dX6_couldShade_36 : decode cX6_couldShade 36 = .ok (.iload 6, 2) := by decide +kernel
theorem dX6_couldShade_38 : decode cX6_couldShade 38 = .ok (.iconst 5, 1) := by decide +kernel
theorem dX6_couldShade_39 : decode cX6_couldShade 39 = .ok (.if_icmp .ge 46, 3) := by decide +kernel
theorem dX6_couldShade_42 : decode cX6_couldShade 42 = .ok (.iload_n 3, 1) := by decide +kernel
theorem dX6_couldShade_43 : decode cX6_couldShade 43 = .ok (.aload_n 0, 1) := by decide +kernel
theorem dX6_couldShade_44 : decode cX6_couldShade 44 = .ok (.iload 4, 2) := by decide +kernel
theorem dX6_couldShade_46 : decode cX6_couldShade 46 = .ok (.iload 5, 2) := by decide +kernel
theorem dX6_couldShade_48 : decode cX6_couldShade 48 = .ok (.iload 6, 2) := by decide +kernel
theorem dX6_couldShade_50 : decode cX6_couldShade 50 = .ok (.invokevirtual 155, 3) := by decide +kernel
theorem dX6_couldShade_53 : decode cX6_couldShade 53 = .ok (.bipush (-9), 2) := by decide +kernel
theorem dX6_couldShade_55 : decode cX6_couldShade 55 = .ok (.if_icmp .ne 21, 3) := by decide +kernel
theorem dX6_couldShade_58 : decode cX6_couldShade 58 = .ok (.iload 4, 2) := by decide +kernel
theorem dX6_couldShade_60 : decode cX6_couldShade 60 = .ok (.iload 5, 2) := by decide +kernel
theorem dX6_couldShade_62 : decode cX6_couldShade 62 = .ok (.iload_n 1, 1) := by decide +kernel
theorem dX6_couldShade_63 : decode cX6_couldShade 63 = .ok (.iload_n 2, 1) := by decide +kernel
theorem dX6_couldShade_64 : decode cX6_couldShade 64 = .ok (.iload 6, 2) := by decide +kernel
theorem dX6_couldShade_66 : decode cX6_couldShade 66 = .ok (.invokestatic 201, 3) := by decide +kernel
theorem dX6_couldShade_69 : decode cX6_couldShade 69 = .ok (.ifCond .eq 7, 3) := by decide +kernel
theorem dX6_couldShade_72 : decode cX6_couldShade 72 = .ok (.iconst 1, 1) := by decide +kernel
theorem dX6_couldShade_73 : decode cX6_couldShade 73 = .ok (.goto 4, 3) := by decide +kernel
theorem dX6_couldShade_76 : decode cX6_couldShade 76 = .ok (.iconst 0, 1) := by decide +kernel
theorem dX6_couldShade_77 : decode cX6_couldShade 77 = .ok (.iadd, 1) := by decide +kernel
theorem dX6_couldShade_78 : decode cX6_couldShade 78 = .ok (.istore_n 3, 1) := by decide +kernel
theorem dX6_couldShade_79 : decode cX6_couldShade 79 = .ok (.iinc 6 1, 3) := by decide +kernel
theorem dX6_couldShade_82 : decode cX6_couldShade 82 = .ok (.goto (-46), 3) := by decide +kernel
theorem dX6_couldShade_85 : decode cX6_couldShade 85 = .ok (.iinc 5 1, 3) := by decide +kernel
theorem dX6_couldShade_88 : decode cX6_couldShade 88 = .ok (.goto (-69), 3) := by decide +kernel
theorem dX6_couldShade_91 : decode cX6_couldShade 91 = .ok (.iinc 4 1, 3) := by decide +kernel
theorem dX6_couldShade_94 : decode cX6_couldShade 94 = .ok (.goto (-89), 3) := by decide +kernel
theorem dX6_couldShade_97 : decode cX6_couldShade 97 = .ok (.iload_n 3, 1) := by decide +kernel
theorem dX6_couldShade_98 : decode cX6_couldShade 98 = .ok (.ireturn, 1) := by decide +kernel
theorem dX6_lightened_0 : decode cX6_lightened 0 = .ok (.iconst 0, 1) := by decide +kernel
theorem dX6_lightened_1 : decode cX6_lightened 1 = .ok (.istore_n 3, 1) := by decide +kernel
theorem dX6_lightened_2 : decode cX6_lightened 2 = .ok (.iconst 0, 1) := by decide +kernel
theorem dX6_lightened_3 : decode cX6_lightened 3 = .ok (.istore 4, 2) := by decide +kernel
theorem dX6_lightened_5 : decode cX6_lightened 5 = .ok (.iload 4, 2) := by decide +kernel
theorem dX6_lightened_7 : decode cX6_lightened 7 = .ok (.iload_n 2, 1) := by decide +kernel
theorem dX6_lightened_8 : decode cX6_lightened 8 = .ok (.if_icmp .ge 39, 3) := by decide +kernel
theorem dX6_lightened_11 : decode cX6_lightened 11 = .ok (.iload_n 3, 1) := by decide +kernel
theorem dX6_lightened_12 : decode cX6_lightened 12 = .ok (.aload_n 0, 1) := by decide +kernel
theorem dX6_lightened_13 : decode cX6_lightened 13 = .ok (.iload_n 1, 1) := by decide +kernel
theorem dX6_lightened_14 : decode cX6_lightened 14 = .ok (.iload 4, 2) := by decide +kernel
theorem dX6_lightened_16 : decode cX6_lightened 16 = .ok (.invokevirtual 159, 3) := by decide +kernel
theorem dX6_lightened_19 : decode cX6_lightened 19 = .ok (.invokestatic 162, 3) := by decide +kernel
theorem dX6_lightened_22 : decode cX6_lightened 22 = .ok (.aload_n 0, 1) := by decide +kernel
theorem dX6_lightened_23 : decode cX6_lightened 23 = .ok (.iload_n 1, 1) := by decide +kernel
theorem dX6_lightened_24 : decode cX6_lightened 24 = .ok (.iload 4, 2) := by decide +kernel
theorem dX6_lightened_26 : decode cX6_lightened 26 = .ok (.invokevirtual 165, 3) := by decide +kernel
theorem dX6_lightened_29 : decode cX6_lightened 29 = .ok (.iadd, 1) := by decide +kernel
theorem dX6_lightened_30 : decode cX6_lightened 30 = .ok (.iconst 5, 1) := by decide +kernel
theorem dX6_lightened_31 : decode cX6_lightened 31 = .ok (.if_icmp .gt 7, 3) := by decide +kernel
theorem dX6_lightened_34 : decode cX6_lightened 34 = .ok (.iconst 1, 1) := by decide +kernel
theorem dX6_lightened_35 : decode cX6_lightened 35 = .ok (.goto 4, 3) := by decide +kernel
theorem dX6_lightened_38 : decode cX6_lightened 38 = .ok (.iconst 0, 1) := by decide +kernel
theorem dX6_lightened_39 : decode cX6_lightened 39 = .ok (.iadd, 1) := by decide +kernel
theorem dX6_lightened_40 : decode cX6_lightened 40 = .ok (.istore_n 3, 1) := by decide +kernel
theorem dX6_lightened_41 : decode cX6_lightened 41 = .ok (.iinc 4 1, 3) := by decide +kernel
theorem dX6_lightened_44 : decode cX6_lightened 44 = .ok (.goto (-39), 3) := by decide +kernel
theorem dX6_lightened_47 : decode cX6_lightened 47 = .ok (.iload_n 3, 1) := by decide +kernel
theorem dX6_lightened_48 : decode cX6_lightened 48 = .ok (.ireturn, 1) := by decide +kernel
theorem dX6_mark_0 : decode cX6_mark 0 = .ok (.aload_n 0, 1) := by decide +kernel
theorem dX6_mark_1 : decode cX6_mark 1 = .ok (.iload_n 1, 1) := by decide +kernel
theorem dX6_mark_2 : decode cX6_mark 2 = .ok (.iload_n 2, 1) := by decide +kernel
theorem dX6_mark_3 : decode cX6_mark 3 = .ok (.invokevirtual 193, 3) := by decide +kernel
theorem dX6_mark_6 : decode cX6_mark 6 = .ok (.ifCond .eq 15, 3) := by decide +kernel
theorem dX6_mark_9 : decode cX6_mark 9 = .ok (.iload_n 3, 1) := by decide +kernel
theorem dX6_mark_10 : decode cX6_mark 10 = .ok (.i2l, 1) := by decide +kernel
theorem dX6_mark_11 : decode cX6_mark 11 = .ok (.lconst 1, 1) := by decide +kernel
theorem dX6_mark_12 : decode cX6_mark 12 = .ok (.ldc2_w 61, 3) := by decide +kernel
theorem dX6_mark_15 : decode cX6_mark 15 = .ok (.invokestatic 63, 3) := by decide +kernel
theorem dX6_mark_18 : decode cX6_mark 18 = .ok (.ifCond .ne 5, 3) := by decide +kernel
theorem dX6_mark_21 : decode cX6_mark 21 = .ok (.iconst (-1), 1) := by decide +kernel
theorem dX6_mark_22 : decode cX6_mark 22 = .ok (.ireturn, 1) := by decide +kernel
theorem dX6_mark_23 : decode cX6_mark 23 = .ok (.aload_n 0, 1) := by decide +kernel
theorem dX6_mark_24 : decode cX6_mark 24 = .ok (.iload_n 1, 1) := by decide +kernel
theorem dX6_mark_25 : decode cX6_mark 25 = .ok (.iload_n 2, 1) := by decide +kernel
theorem dX6_mark_26 : decode cX6_mark 26 = .ok (.invokevirtual 151, 3) := by decide +kernel
theorem dX6_mark_29 : decode cX6_mark 29 = .ok (.ifCond .ne 9, 3) := by decide +kernel
theorem dX6_mark_32 : decode cX6_mark 32 = .ok (.aload_n 0, 1) := by decide +kernel
theorem dX6_mark_33 : decode cX6_mark 33 = .ok (.iconst 2, 1) := by decide +kernel
theorem dX6_mark_34 : decode cX6_mark 34 = .ok (.invokevirtual 73, 3) := by decide +kernel
theorem dX6_mark_37 : decode cX6_mark 37 = .ok (.ireturn, 1) := by decide +kernel
theorem dX6_mark_38 : decode cX6_mark 38 = .ok (.aload_n 0, 1) := by decide +kernel
theorem dX6_mark_39 : decode cX6_mark 39 = .ok (.iload_n 1, 1) := by decide +kernel
theorem dX6_mark_40 : decode cX6_mark 40 = .ok (.iload_n 2, 1) := by decide +kernel
theorem dX6_mark_41 : decode cX6_mark 41 = .ok (.invokevirtual 133, 3) := by decide +kernel
theorem dX6_mark_44 : decode cX6_mark 44 = .ok (.iload_n 3, 1) := by decide +kernel
theorem dX6_mark_45 : decode cX6_mark 45 = .ok (.invokestatic 205, 3) := by decide +kernel
theorem dX6_mark_48 : decode cX6_mark 48 = .ok (.ifCond .ne 9, 3) := by decide +kernel
theorem dX6_mark_51 : decode cX6_mark 51 = .ok (.aload_n 0, 1) := by decide +kernel
theorem dX6_mark_52 : decode cX6_mark 52 = .ok (.iconst 3, 1) := by decide +kernel
theorem dX6_mark_53 : decode cX6_mark 53 = .ok (.invokevirtual 73, 3) := by decide +kernel
theorem dX6_mark_56 : decode cX6_mark 56 = .ok (.ireturn, 1) := by decide +kernel
theorem dX6_mark_57 : decode cX6_mark 57 = .ok (.iload_n 3, 1) := by decide +kernel
theorem dX6_mark_58 : decode cX6_mark 58 = .ok (.tableswitch 98 1 4 #[30, 37, 70, 85], 30) := by decide +kernel
theorem dX6_mark_88 : decode cX6_mark 88 = .ok (.aload_n 0, 1) := by decide +kernel
theorem dX6_mark_89 : decode cX6_mark 89 = .ok (.iload_n 1, 1) := by decide +kernel
theorem dX6_mark_90 : decode cX6_mark 90 = .ok (.iload_n 2, 1) := by decide +kernel
theorem dX6_mark_91 : decode cX6_mark 91 = .ok (.invokevirtual 208, 3) := by decide +kernel
theorem dX6_mark_94 : decode cX6_mark 94 = .ok (.ireturn, 1) := by decide +kernel
theorem dX6_mark_95 : decode cX6_mark 95 = .ok (.iload_n 1, 1) := by decide +kernel
theorem dX6_mark_96 : decode cX6_mark 96 = .ok (.iconst 1, 1) := by decide +kernel
theorem dX6_mark_97 : decode cX6_mark 97 = .ok (.iadd, 1) := by decide +kernel
theorem dX6_mark_98 : decode cX6_mark 98 = .ok (.aload_n 0, 1) := by decide +kernel
theorem dX6_mark_99 : decode cX6_mark 99 = .ok (.getfield 7, 3) := by decide +kernel
theorem dX6_mark_102 : decode cX6_mark 102 = .ok (.iconst 0, 1) := by decide +kernel
theorem dX6_mark_103 : decode cX6_mark 103 = .ok (.iaload, 1) := by decide +kernel
theorem dX6_mark_104 : decode cX6_mark 104 = .ok (.if_icmp .ne 7, 3) := by decide +kernel
theorem dX6_mark_107 : decode cX6_mark 107 = .ok (.iconst 0, 1) := by decide +kernel
theorem dX6_mark_108 : decode cX6_mark 108 = .ok (.goto 19, 3) := by decide +kernel
theorem dX6_mark_111 : decode cX6_mark 111 = .ok (.iload_n 2, 1) := by decide +kernel
theorem dX6_mark_112 : decode cX6_mark 112 = .ok (.iconst 1, 1) := by decide +kernel
theorem dX6_mark_113 : decode cX6_mark 113 = .ok (.iadd, 1) := by decide +kernel
theorem dX6_mark_114 : decode cX6_mark 114 = .ok (.aload_n 0, 1) := by decide +kernel
theorem dX6_mark_115 : decode cX6_mark 115 = .ok (.getfield 7, 3) := by decide +kernel
theorem dX6_mark_118 : decode cX6_mark 118 = .ok (.iconst 1, 1) := by decide +kernel
theorem dX6_mark_119 : decode cX6_mark 119 = .ok (.iload_n 1, 1) := by decide +kernel
theorem dX6_mark_120 : decode cX6_mark 120 = .ok (.iadd, 1) := by decide +kernel
theorem dX6_mark_121 : decode cX6_mark 121 = .ok (.iconst 1, 1) := by decide +kernel
theorem dX6_mark_122 : decode cX6_mark 122 = .ok (.iadd, 1) := by decide +kernel
theorem dX6_mark_123 : decode cX6_mark 123 = .ok (.iaload, 1) := by decide +kernel
theorem dX6_mark_124 : decode cX6_mark 124 = .ok (.invokestatic 168, 3) := by decide +kernel
theorem dX6_mark_127 : decode cX6_mark 127 = .ok (.ireturn, 1) := by decide +kernel
theorem dX6_mark_128 : decode cX6_mark 128 = .ok (.aload_n 0, 1) := by decide +kernel
theorem dX6_mark_129 : decode cX6_mark 129 = .ok (.invokevirtual 184, 3) := by decide +kernel
theorem dX6_mark_132 : decode cX6_mark 132 = .ok (.aload_n 0, 1) := by decide +kernel
theorem dX6_mark_133 : decode cX6_mark 133 = .ok (.aload_n 0, 1) := by decide +kernel
theorem dX6_mark_134 : decode cX6_mark 134 = .ok (.iload_n 1, 1) := by decide +kernel
theorem dX6_mark_135 : decode cX6_mark 135 = .ok (.iload_n 2, 1) := by decide +kernel
theorem dX6_mark_136 : decode cX6_mark 136 = .ok (.invokevirtual 124, 3) := by decide +kernel
theorem dX6_mark_139 : decode cX6_mark 139 = .ok (.invokevirtual 190, 3) := by decide +kernel
theorem dX6_mark_142 : decode cX6_mark 142 = .ok (.ireturn, 1) := by decide +kernel
theorem dX6_mark_143 : decode cX6_mark 143 = .ok (.aload_n 0, 1) := by decide +kernel
theorem dX6_mark_144 : decode cX6_mark 144 = .ok (.getfield 7, 3) := by decide +kernel
theorem dX6_mark_147 : decode cX6_mark 147 = .ok (.iconst 1, 1) := by decide +kernel
theorem dX6_mark_148 : decode cX6_mark 148 = .ok (.iload_n 1, 1) := by decide +kernel
theorem dX6_mark_149 : decode cX6_mark 149 = .ok (.iadd, 1) := by decide +kernel
theorem dX6_mark_150 : decode cX6_mark 150 = .ok (.iaload, 1) := by decide +kernel
theorem dX6_mark_151 : decode cX6_mark 151 = .ok (.iconst 1, 1) := by decide +kernel
theorem dX6_mark_152 : decode cX6_mark 152 = .ok (.isub, 1) := by decide +kernel
theorem dX6_mark_153 : decode cX6_mark 153 = .ok (.iload_n 2, 1) := by decide +kernel
theorem dX6_mark_154 : decode cX6_mark 154 = .ok (.isub, 1) := by decide +kernel
theorem dX6_mark_155 : decode cX6_mark 155 = .ok (.ireturn, 1) := by decide +kernel
theorem dX6_mark_156 : decode cX6_mark 156 = .ok (.aload_n 0, 1) := by decide +kernel
theorem dX6_mark_157 : decode cX6_mark 157 = .ok (.iload_n 1, 1) := by decide +kernel
theorem dX6_mark_158 : decode cX6_mark 158 = .ok (.iload_n 2, 1) := by decide +kernel
theorem dX6_mark_159 : decode cX6_mark 159 = .ok (.invokevirtual 211, 3) := by decide +kernel
theorem dX6_mark_162 : decode cX6_mark 162 = .ok (.ireturn, 1) := by decide +kernel
theorem dX6_bear_0 : decode cX6_bear 0 = .ok (.aload_n 0, 1) := by decide +kernel
theorem dX6_bear_1 : decode cX6_bear 1 = .ok (.iload_n 1, 1) := by decide +kernel
theorem dX6_bear_2 : decode cX6_bear 2 = .ok (.iload_n 2, 1) := by decide +kernel
theorem dX6_bear_3 : decode cX6_bear 3 = .ok (.invokevirtual 193, 3) := by decide +kernel
theorem dX6_bear_6 : decode cX6_bear 6 = .ok (.ifCond .eq 15, 3) := by decide +kernel
theorem dX6_bear_9 : decode cX6_bear 9 = .ok (.iload_n 3, 1) := by decide +kernel
theorem dX6_bear_10 : decode cX6_bear 10 = .ok (.i2l, 1) := by decide +kernel
theorem dX6_bear_11 : decode cX6_bear 11 = .ok (.lconst 0, 1) := by decide +kernel
theorem dX6_bear_12 : decode cX6_bear 12 = .ok (.ldc2_w 214, 3) := by decide +kernel
theorem dX6_bear_15 : decode cX6_bear 15 = .ok (.invokestatic 63, 3) := by decide +kernel
theorem dX6_bear_18 : decode cX6_bear 18 = .ok (.ifCond .ne 5, 3) := by decide +kernel
theorem dX6_bear_21 : decode cX6_bear 21 = .ok (.iconst (-1), 1) := by decide +kernel
theorem dX6_bear_22 : decode cX6_bear 22 = .ok (.ireturn, 1) := by decide +kernel
theorem dX6_bear_23 : decode cX6_bear 23 = .ok (.aload_n 0, 1) := by decide +kernel
theorem dX6_bear_24 : decode cX6_bear 24 = .ok (.iload_n 1, 1) := by decide +kernel
theorem dX6_bear_25 : decode cX6_bear 25 = .ok (.iload_n 2, 1) := by decide +kernel
theorem dX6_bear_26 : decode cX6_bear 26 = .ok (.invokevirtual 151, 3) := by decide +kernel
theorem dX6_bear_29 : decode cX6_bear 29 = .ok (.ifCond .ne 9, 3) := by decide +kernel
theorem dX6_bear_32 : decode cX6_bear 32 = .ok (.aload_n 0, 1) := by decide +kernel
theorem dX6_bear_33 : decode cX6_bear 33 = .ok (.iconst 2, 1) := by decide +kernel
theorem dX6_bear_34 : decode cX6_bear 34 = .ok (.invokevirtual 73, 3) := by decide +kernel
theorem dX6_bear_37 : decode cX6_bear 37 = .ok (.ireturn, 1) := by decide +kernel
theorem dX6_bear_38 : decode cX6_bear 38 = .ok (.aload_n 0, 1) := by decide +kernel
theorem dX6_bear_39 : decode cX6_bear 39 = .ok (.iload_n 1, 1) := by decide +kernel
theorem dX6_bear_40 : decode cX6_bear 40 = .ok (.iload_n 2, 1) := by decide +kernel
theorem dX6_bear_41 : decode cX6_bear 41 = .ok (.invokevirtual 142, 3) := by decide +kernel
theorem dX6_bear_44 : decode cX6_bear 44 = .ok (.istore 4, 2) := by decide +kernel
theorem dX6_bear_46 : decode cX6_bear 46 = .ok (.aload_n 0, 1) := by decide +kernel
theorem dX6_bear_47 : decode cX6_bear 47 = .ok (.getfield 7, 3) := by decide +kernel
theorem dX6_bear_50 : decode cX6_bear 50 = .ok (.bipush 36, 2) := by decide +kernel
theorem dX6_bear_52 : decode cX6_bear 52 = .ok (.bipush 6, 2) := by decide +kernel
theorem dX6_bear_54 : decode cX6_bear 54 = .ok (.iload_n 1, 1) := by decide +kernel
theorem dX6_bear_55 : decode cX6_bear 55 = .ok (.imul, 1) := by decide +kernel
theorem dX6_bear_56 : decode cX6_bear 56 = .ok (.iadd, 1) := by decide +kernel
theorem dX6_bear_57 : decode cX6_bear 57 = .ok (.iload_n 2, 1) := by decide +kernel
theorem dX6_bear_58 : decode cX6_bear 58 = .ok (.iadd, 1) := by decide +kernel
theorem dX6_bear_59 : decode cX6_bear 59 = .ok (.iload_n 3, 1) := by decide +kernel
theorem dX6_bear_60 : decode cX6_bear 60 = .ok (.iastore, 1) := by decide +kernel
theorem dX6_bear_61 : decode cX6_bear 61 = .ok (.iload 4, 2) := by decide +kernel
theorem dX6_bear_63 : decode cX6_bear 63 = .ok (.ireturn, 1) := by decide +kernel
theorem dX6_minds_0 : decode cX6_minds 0 = .ok (.aload_n 0, 1) := by decide +kernel
theorem dX6_minds_1 : decode cX6_minds 1 = .ok (.iconst 0, 1) := by decide +kernel
theorem dX6_minds_2 : decode cX6_minds 2 = .ok (.bipush 66, 2) := by decide +kernel
theorem dX6_minds_4 : decode cX6_minds 4 = .ok (.aload_n 0, 1) := by decide +kernel
theorem dX6_minds_5 : decode cX6_minds 5 = .ok (.getfield 115, 3) := by decide +kernel
theorem dX6_minds_8 : decode cX6_minds 8 = .ok (.iconst 1, 1) := by decide +kernel
theorem dX6_minds_9 : decode cX6_minds 9 = .ok (.iadd, 1) := by decide +kernel
theorem dX6_minds_10 : decode cX6_minds 10 = .ok (.imul, 1) := by decide +kernel
theorem dX6_minds_11 : decode cX6_minds 11 = .ok (.bipush 66, 2) := by decide +kernel
theorem dX6_minds_13 : decode cX6_minds 13 = .ok (.invokevirtual 111, 3) := by decide +kernel
theorem dX6_minds_16 : decode cX6_minds 16 = .ok (.aload_n 0, 1) := by decide +kernel
theorem dX6_minds_17 : decode cX6_minds 17 = .ok (.dup, 1) := by decide +kernel
theorem dX6_minds_18 : decode cX6_minds 18 = .ok (.getfield 115, 3) := by decide +kernel
theorem dX6_minds_21 : decode cX6_minds 21 = .ok (.iconst 1, 1) := by decide +kernel
theorem dX6_minds_22 : decode cX6_minds 22 = .ok (.iadd, 1) := by decide +kernel
theorem dX6_minds_23 : decode cX6_minds 23 = .ok (.putfield 115, 3) := by decide +kernel
theorem dX6_minds_26 : decode cX6_minds 26 = .ok (.return_, 1) := by decide +kernel
theorem dX6_hasRoom_0 : decode cX6_hasRoom 0 = .ok (.aload_n 0, 1) := by decide +kernel
theorem dX6_hasRoom_1 : decode cX6_hasRoom 1 = .ok (.getfield 7, 3) := by decide +kernel
theorem dX6_hasRoom_4 : decode cX6_hasRoom 4 = .ok (.iconst 1, 1) := by decide +kernel
theorem dX6_hasRoom_5 : decode cX6_hasRoom 5 = .ok (.iload_n 1, 1) := by decide +kernel
theorem dX6_hasRoom_6 : decode cX6_hasRoom 6 = .ok (.iadd, 1) := by decide +kernel
theorem dX6_hasRoom_7 : decode cX6_hasRoom 7 = .ok (.iaload, 1) := by decide +kernel
theorem dX6_hasRoom_8 : decode cX6_hasRoom 8 = .ok (.bipush 6, 2) := by decide +kernel
theorem dX6_hasRoom_10 : decode cX6_hasRoom 10 = .ok (.if_icmp .ge 16, 3) := by decide +kernel
theorem dX6_hasRoom_13 : decode cX6_hasRoom 13 = .ok (.aload_n 0, 1) := by decide +kernel
theorem dX6_hasRoom_14 : decode cX6_hasRoom 14 = .ok (.invokevirtual 177, 3) := by decide +kernel
theorem dX6_hasRoom_17 : decode cX6_hasRoom 17 = .ok (.bipush 12, 2) := by decide +kernel
theorem dX6_hasRoom_19 : decode cX6_hasRoom 19 = .ok (.if_icmp .ge 7, 3) := by decide +kernel
theorem dX6_hasRoom_22 : decode cX6_hasRoom 22 = .ok (.iconst 1, 1) := by decide +kernel
theorem dX6_hasRoom_23 : decode cX6_hasRoom 23 = .ok (.goto 4, 3) := by decide +kernel
theorem dX6_hasRoom_26 : decode cX6_hasRoom 26 = .ok (.iconst 0, 1) := by decide +kernel
theorem dX6_hasRoom_27 : decode cX6_hasRoom 27 = .ok (.ireturn, 1) := by decide +kernel
theorem dX6_build_0 : decode cX6_build 0 = .ok (.aload_n 0, 1) := by decide +kernel
theorem dX6_build_1 : decode cX6_build 1 = .ok (.iload_n 1, 1) := by decide +kernel
theorem dX6_build_2 : decode cX6_build 2 = .ok (.invokevirtual 118, 3) := by decide +kernel
theorem dX6_build_5 : decode cX6_build 5 = .ok (.ifCond .eq 27, 3) := by decide +kernel
theorem dX6_build_8 : decode cX6_build 8 = .ok (.iload_n 2, 1) := by decide +kernel
theorem dX6_build_9 : decode cX6_build 9 = .ok (.i2l, 1) := by decide +kernel
theorem dX6_build_10 : decode cX6_build 10 = .ok (.lconst 0, 1) := by decide +kernel
theorem dX6_build_11 : decode cX6_build 11 = .ok (.ldc2_w 61, 3) := by decide +kernel
theorem dX6_build_14 : decode cX6_build 14 = .ok (.invokestatic 63, 3) := by decide +kernel
theorem dX6_build_17 : decode cX6_build 17 = .ok (.ifCond .eq 15, 3) := by decide +kernel
theorem dX6_build_20 : decode cX6_build 20 = .ok (.iload_n 3, 1) := by decide +kernel
theorem dX6_build_21 : decode cX6_build 21 = .ok (.i2l, 1) := by decide +kernel
theorem dX6_build_22 : decode cX6_build 22 = .ok (.lconst 0, 1) := by decide +kernel
theorem dX6_build_23 : decode cX6_build 23 = .ok (.ldc2_w 214, 3) := by decide +kernel
theorem dX6_build_26 : decode cX6_build 26 = .ok (.invokestatic 63, 3) := by decide +kernel
theorem dX6_build_29 : decode cX6_build 29 = .ok (.ifCond .ne 5, 3) := by decide +kernel
theorem dX6_build_32 : decode cX6_build 32 = .ok (.iconst (-1), 1) := by decide +kernel
theorem dX6_build_33 : decode cX6_build 33 = .ok (.ireturn, 1) := by decide +kernel
theorem dX6_build_34 : decode cX6_build 34 = .ok (.aload_n 0, 1) := by decide +kernel
theorem dX6_build_35 : decode cX6_build 35 = .ok (.iload_n 1, 1) := by decide +kernel
theorem dX6_build_36 : decode cX6_build 36 = .ok (.invokevirtual 216, 3) := by decide +kernel
theorem dX6_build_39 : decode cX6_build 39 = .ok (.ifCond .eq 12, 3) := by decide +kernel
theorem dX6_build_42 : decode cX6_build 42 = .ok (.aload_n 0, 1) := by decide +kernel
theorem dX6_build_43 : decode cX6_build 43 = .ok (.getfield 115, 3) := by decide +kernel
theorem dX6_build_46 : decode cX6_build 46 = .ok (.bipush 40, 2) := by decide +kernel
theorem dX6_build_48 : decode cX6_build 48 = .ok (.if_icmp .ne 6, 3) := by decide +kernel
theorem dX6_build_51 : decode cX6_build 51 = .ok (.bipush (-2), 2) := by decide +kernel
theorem dX6_build_53 : decode cX6_build 53 = .ok (.ireturn, 1) := by decide +kernel
theorem dX6_build_54 : decode cX6_build 54 = .ok (.aload_n 0, 1) := by decide +kernel
theorem dX6_build_55 : decode cX6_build 55 = .ok (.invokevirtual 219, 3) := by decide +kernel
theorem dX6_build_58 : decode cX6_build 58 = .ok (.aload_n 0, 1) := by decide +kernel
theorem dX6_build_59 : decode cX6_build 59 = .ok (.iconst 0, 1) := by decide +kernel
theorem dX6_build_60 : decode cX6_build 60 = .ok (.iload_n 1, 1) := by decide +kernel
theorem dX6_build_61 : decode cX6_build 61 = .ok (.iload_n 2, 1) := by decide +kernel
theorem dX6_build_62 : decode cX6_build 62 = .ok (.iload_n 3, 1) := by decide +kernel
theorem dX6_build_63 : decode cX6_build 63 = .ok (.invokevirtual 104, 3) := by decide +kernel
theorem dX6_build_66 : decode cX6_build 66 = .ok (.aload_n 0, 1) := by decide +kernel
theorem dX6_build_67 : decode cX6_build 67 = .ok (.getfield 7, 3) := by decide +kernel
theorem dX6_build_70 : decode cX6_build 70 = .ok (.iconst 1, 1) := by decide +kernel
theorem dX6_build_71 : decode cX6_build 71 = .ok (.iload_n 1, 1) := by decide +kernel
theorem dX6_build_72 : decode cX6_build 72 = .ok (.iadd, 1) := by decide +kernel
theorem dX6_build_73 : decode cX6_build 73 = .ok (.iaload, 1) := by decide +kernel
theorem dX6_build_74 : decode cX6_build 74 = .ok (.iconst 1, 1) := by decide +kernel
theorem dX6_build_75 : decode cX6_build 75 = .ok (.isub, 1) := by decide +kernel
theorem dX6_build_76 : decode cX6_build 76 = .ok (.ireturn, 1) := by decide +kernel
theorem dX6_leave_0 : decode cX6_leave 0 = .ok (.aload_n 0, 1) := by decide +kernel
theorem dX6_leave_1 : decode cX6_leave 1 = .ok (.iload_n 1, 1) := by decide +kernel
theorem dX6_leave_2 : decode cX6_leave 2 = .ok (.iload_n 2, 1) := by decide +kernel
theorem dX6_leave_3 : decode cX6_leave 3 = .ok (.invokevirtual 193, 3) := by decide +kernel
theorem dX6_leave_6 : decode cX6_leave 6 = .ok (.ifCond .ne 5, 3) := by decide +kernel
theorem dX6_leave_9 : decode cX6_leave 9 = .ok (.iconst (-1), 1) := by decide +kernel
theorem dX6_leave_10 : decode cX6_leave 10 = .ok (.ireturn, 1) := by decide +kernel
theorem dX6_leave_11 : decode cX6_leave 11 = .ok (.aload_n 0, 1) := by decide +kernel
theorem dX6_leave_12 : decode cX6_leave 12 = .ok (.iload_n 1, 1) := by decide +kernel
theorem dX6_leave_13 : decode cX6_leave 13 = .ok (.iload_n 2, 1) := by decide +kernel
theorem dX6_leave_14 : decode cX6_leave 14 = .ok (.invokevirtual 151, 3) := by decide +kernel
theorem dX6_leave_17 : decode cX6_leave 17 = .ok (.ifCond .ne 9, 3) := by decide +kernel
theorem dX6_leave_20 : decode cX6_leave 20 = .ok (.aload_n 0, 1) := by decide +kernel
theorem dX6_leave_21 : decode cX6_leave 21 = .ok (.iconst 2, 1) := by decide +kernel
theorem dX6_leave_22 : decode cX6_leave 22 = .ok (.invokevirtual 73, 3) := by decide +kernel
theorem dX6_leave_25 : decode cX6_leave 25 = .ok (.ireturn, 1) := by decide +kernel
theorem dX6_leave_26 : decode cX6_leave 26 = .ok (.aload_n 0, 1) := by decide +kernel
theorem dX6_leave_27 : decode cX6_leave 27 = .ok (.getfield 115, 3) := by decide +kernel
theorem dX6_leave_30 : decode cX6_leave 30 = .ok (.bipush 40, 2) := by decide +kernel
theorem dX6_leave_32 : decode cX6_leave 32 = .ok (.if_icmp .ne 6, 3) := by decide +kernel
theorem dX6_leave_35 : decode cX6_leave 35 = .ok (.bipush (-2), 2) := by decide +kernel
theorem dX6_leave_37 : decode cX6_leave 37 = .ok (.ireturn, 1) := by decide +kernel
theorem dX6_leave_38 : decode cX6_leave 38 = .ok (.aload_n 0, 1) := by decide +kernel
theorem dX6_leave_39 : decode cX6_leave 39 = .ok (.invokevirtual 219, 3) := by decide +kernel
theorem dX6_leave_42 : decode cX6_leave 42 = .ok (.aload_n 0, 1) := by decide +kernel
theorem dX6_leave_43 : decode cX6_leave 43 = .ok (.iload_n 1, 1) := by decide +kernel
theorem dX6_leave_44 : decode cX6_leave 44 = .ok (.iload_n 2, 1) := by decide +kernel
theorem dX6_leave_45 : decode cX6_leave 45 = .ok (.invokevirtual 222, 3) := by decide +kernel
theorem dX6_leave_48 : decode cX6_leave 48 = .ok (.aload_n 0, 1) := by decide +kernel
theorem dX6_leave_49 : decode cX6_leave 49 = .ok (.getfield 7, 3) := by decide +kernel
theorem dX6_leave_52 : decode cX6_leave 52 = .ok (.iconst 1, 1) := by decide +kernel
theorem dX6_leave_53 : decode cX6_leave 53 = .ok (.iload_n 1, 1) := by decide +kernel
theorem dX6_leave_54 : decode cX6_leave 54 = .ok (.iadd, 1) := by decide +kernel
theorem dX6_leave_55 : decode cX6_leave 55 = .ok (.iaload, 1) := by decide +kernel
theorem dX6_leave_56 : decode cX6_leave 56 = .ok (.iload_n 2, 1) := by decide +kernel
theorem dX6_leave_57 : decode cX6_leave 57 = .ok (.isub, 1) := by decide +kernel
theorem dX6_leave_58 : decode cX6_leave 58 = .ok (.ireturn, 1) := by decide +kernel
theorem dX6_undo_0 : decode cX6_undo 0 = .ok (.iload_n 1, 1) := by decide +kernel
theorem dX6_undo_1 : decode cX6_undo 1 = .ok (.i2l, 1) := by decide +kernel
theorem dX6_undo_2 : decode cX6_undo 2 = .ok (.lconst 0, 1) := by decide +kernel
theorem dX6_undo_3 : decode cX6_undo 3 = .ok (.aload_n 0, 1) := by decide +kernel
theorem dX6_undo_4 : decode cX6_undo 4 = .ok (.getfield 115, 3) := by decide +kernel
theorem dX6_undo_7 : decode cX6_undo 7 = .ok (.i2l, 1) := by decide +kernel
theorem dX6_undo_8 : decode cX6_undo 8 = .ok (.invokestatic 63, 3) := by decide +kernel
theorem dX6_undo_11 : decode cX6_undo 11 = .ok (.ifCond .ne 5, 3) := by decide +kernel

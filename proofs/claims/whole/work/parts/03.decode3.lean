theorem dX8_notes_27 : decode cX8_notes 27 = .ok (.iastore, 1) := by decide +kernel
theorem dX8_notes_28 : decode cX8_notes 28 = .ok (.aload_n 0, 1) := by decide +kernel
theorem dX8_notes_29 : decode cX8_notes 29 = .ok (.getfield 55, 3) := by decide +kernel
theorem dX8_notes_32 : decode cX8_notes 32 = .ok (.iload_n 1, 1) := by decide +kernel
theorem dX8_notes_33 : decode cX8_notes 33 = .ok (.dup2, 1) := by decide +kernel
theorem dX8_notes_34 : decode cX8_notes 34 = .ok (.iaload, 1) := by decide +kernel
theorem dX8_notes_35 : decode cX8_notes 35 = .ok (.iconst 1, 1) := by decide +kernel
theorem dX8_notes_36 : decode cX8_notes 36 = .ok (.iadd, 1) := by decide +kernel
theorem dX8_notes_37 : decode cX8_notes 37 = .ok (.iastore, 1) := by decide +kernel
theorem dX8_notes_38 : decode cX8_notes 38 = .ok (.return_, 1) := by decide +kernel
theorem dX8_isInRow_0 : decode cX8_isInRow 0 = .ok (.iconst 0, 1) := by decide +kernel
theorem dX8_isInRow_1 : decode cX8_isInRow 1 = .ok (.istore_n 3, 1) := by decide +kernel
theorem dX8_isInRow_2 : decode cX8_isInRow 2 = .ok (.iconst 0, 1) := by decide +kernel
theorem dX8_isInRow_3 : decode cX8_isInRow 3 = .ok (.istore 4, 2) := by decide +kernel
theorem dX8_isInRow_5 : decode cX8_isInRow 5 = .ok (.iload 4, 2) := by decide +kernel
theorem dX8_isInRow_7 : decode cX8_isInRow 7 = .ok (.aload_n 0, 1) := by decide +kernel
theorem dX8_isInRow_8 : decode cX8_isInRow 8 = .ok (.getfield 37, 3) := by decide +kernel
theorem dX8_isInRow_11 : decode cX8_isInRow 11 = .ok (.iload_n 1, 1) := by decide +kernel
theorem dX8_isInRow_12 : decode cX8_isInRow 12 = .ok (.iaload, 1) := by decide +kernel
theorem dX8_isInRow_13 : decode cX8_isInRow 13 = .ok (.if_icmp .ge 35, 3) := by decide +kernel
theorem dX8_isInRow_16 : decode cX8_isInRow 16 = .ok (.iload_n 3, 1) := by decide +kernel
theorem dX8_isInRow_17 : decode cX8_isInRow 17 = .ok (.ifCond .ne 19, 3) := by decide +kernel
theorem dX8_isInRow_20 : decode cX8_isInRow 20 = .ok (.aload_n 0, 1) := by decide +kernel
theorem dX8_isInRow_21 : decode cX8_isInRow 21 = .ok (.getfield 40, 3) := by decide +kernel
theorem dX8_isInRow_24 : decode cX8_isInRow 24 = .ok (.bipush 9, 2) := by decide +kernel
theorem dX8_isInRow_26 : decode cX8_isInRow 26 = .ok (.iload_n 1, 1) := by decide +kernel
theorem dX8_isInRow_27 : decode cX8_isInRow 27 = .ok (.imul, 1) := by decide +kernel
theorem dX8_isInRow_28 : decode cX8_isInRow 28 = .ok (.iload 4, 2) := by decide +kernel
theorem dX8_isInRow_30 : decode cX8_isInRow 30 = .ok (.iadd, 1) := by decide +kernel
theorem dX8_isInRow_31 : decode cX8_isInRow 31 = .ok (.iaload, 1) := by decide +kernel
theorem dX8_isInRow_32 : decode cX8_isInRow 32 = .ok (.iload_n 2, 1) := by decide +kernel
theorem dX8_isInRow_33 : decode cX8_isInRow 33 = .ok (.if_icmp .ne 7, 3) := by decide +kernel
theorem dX8_isInRow_36 : decode cX8_isInRow 36 = .ok (.iconst 1, 1) := by decide +kernel
theorem dX8_isInRow_37 : decode cX8_isInRow 37 = .ok (.goto 4, 3) := by decide +kernel
theorem dX8_isInRow_40 : decode cX8_isInRow 40 = .ok (.iconst 0, 1) := by decide +kernel
theorem dX8_isInRow_41 : decode cX8_isInRow 41 = .ok (.istore_n 3, 1) := by decide +kernel
theorem dX8_isInRow_42 : decode cX8_isInRow 42 = .ok (.iinc 4 1, 3) := by decide +kernel
theorem dX8_isInRow_45 : decode cX8_isInRow 45 = .ok (.goto (-40), 3) := by decide +kernel
theorem dX8_isInRow_48 : decode cX8_isInRow 48 = .ok (.iload_n 3, 1) := by decide +kernel
theorem dX8_isInRow_49 : decode cX8_isInRow 49 = .ok (.ireturn, 1) := by decide +kernel
theorem dX8_isHour_0 : decode cX8_isHour 0 = .ok (.iload_n 1, 1) := by decide +kernel
theorem dX8_isHour_1 : decode cX8_isHour 1 = .ok (.aload_n 0, 1) := by decide +kernel
theorem dX8_isHour_2 : decode cX8_isHour 2 = .ok (.getfield 70, 3) := by decide +kernel
theorem dX8_isHour_5 : decode cX8_isHour 5 = .ok (.iconst 3, 1) := by decide +kernel
theorem dX8_isHour_6 : decode cX8_isHour 6 = .ok (.iaload, 1) := by decide +kernel
theorem dX8_isHour_7 : decode cX8_isHour 7 = .ok (.bipush 24, 2) := by decide +kernel
theorem dX8_isHour_9 : decode cX8_isHour 9 = .ok (.irem, 1) := by decide +kernel
theorem dX8_isHour_10 : decode cX8_isHour 10 = .ok (.bipush 12, 2) := by decide +kernel
theorem dX8_isHour_12 : decode cX8_isHour 12 = .ok (.if_icmp .ge 7, 3) := by decide +kernel
theorem dX8_isHour_15 : decode cX8_isHour 15 = .ok (.iconst 0, 1) := by decide +kernel
theorem dX8_isHour_16 : decode cX8_isHour 16 = .ok (.goto 4, 3) := by decide +kernel
theorem dX8_isHour_19 : decode cX8_isHour 19 = .ok (.iconst 1, 1) := by decide +kernel
theorem dX8_isHour_20 : decode cX8_isHour 20 = .ok (.ishr, 1) := by decide +kernel
theorem dX8_isHour_21 : decode cX8_isHour 21 = .ok (.iconst 1, 1) := by decide +kernel
theorem dX8_isHour_22 : decode cX8_isHour 22 = .ok (.iand, 1) := by decide +kernel
theorem dX8_isHour_23 : decode cX8_isHour 23 = .ok (.iconst 1, 1) := by decide +kernel
theorem dX8_isHour_24 : decode cX8_isHour 24 = .ok (.if_icmp .ne 7, 3) := by decide +kernel
theorem dX8_isHour_27 : decode cX8_isHour 27 = .ok (.iconst 1, 1) := by decide +kernel
theorem dX8_isHour_28 : decode cX8_isHour 28 = .ok (.goto 4, 3) := by decide +kernel
theorem dX8_isHour_31 : decode cX8_isHour 31 = .ok (.iconst 0, 1) := by decide +kernel
theorem dX8_isHour_32 : decode cX8_isHour 32 = .ok (.ireturn, 1) := by decide +kernel
theorem dX8_doesAct_0 : decode cX8_doesAct 0 = .ok (.aload_n 0, 1) := by decide +kernel
theorem dX8_doesAct_1 : decode cX8_doesAct 1 = .ok (.getfield 7, 3) := by decide +kernel
theorem dX8_doesAct_4 : decode cX8_doesAct 4 = .ok (.iload_n 1, 1) := by decide +kernel
theorem dX8_doesAct_5 : decode cX8_doesAct 5 = .ok (.iaload, 1) := by decide +kernel
theorem dX8_doesAct_6 : decode cX8_doesAct 6 = .ok (.istore 4, 2) := by decide +kernel
theorem dX8_doesAct_8 : decode cX8_doesAct 8 = .ok (.aload_n 0, 1) := by decide +kernel
theorem dX8_doesAct_9 : decode cX8_doesAct 9 = .ok (.iload 4, 2) := by decide +kernel
theorem dX8_doesAct_11 : decode cX8_doesAct 11 = .ok (.invokevirtual 148, 3) := by decide +kernel
theorem dX8_doesAct_14 : decode cX8_doesAct 14 = .ok (.ifCond .ne 7, 3) := by decide +kernel
theorem dX8_doesAct_17 : decode cX8_doesAct 17 = .ok (.iconst 1, 1) := by decide +kernel
theorem dX8_doesAct_18 : decode cX8_doesAct 18 = .ok (.goto 4, 3) := by decide +kernel
theorem dX8_doesAct_21 : decode cX8_doesAct 21 = .ok (.iconst 0, 1) := by decide +kernel
theorem dX8_doesAct_22 : decode cX8_doesAct 22 = .ok (.istore 5, 2) := by decide +kernel
theorem dX8_doesAct_24 : decode cX8_doesAct 24 = .ok (.aload_n 0, 1) := by decide +kernel
theorem dX8_doesAct_25 : decode cX8_doesAct 25 = .ok (.getfield 13, 3) := by decide +kernel
theorem dX8_doesAct_28 : decode cX8_doesAct 28 = .ok (.iload_n 1, 1) := by decide +kernel
theorem dX8_doesAct_29 : decode cX8_doesAct 29 = .ok (.iaload, 1) := by decide +kernel
theorem dX8_doesAct_30 : decode cX8_doesAct 30 = .ok (.tableswitch 158 1 4 #[86, 30, 158, 127], 30) := by decide +kernel
theorem dX8_doesAct_60 : decode cX8_doesAct 60 = .ok (.aload_n 0, 1) := by decide +kernel
theorem dX8_doesAct_61 : decode cX8_doesAct 61 = .ok (.getfield 19, 3) := by decide +kernel
theorem dX8_doesAct_64 : decode cX8_doesAct 64 = .ok (.iload_n 1, 1) := by decide +kernel
theorem dX8_doesAct_65 : decode cX8_doesAct 65 = .ok (.iaload, 1) := by decide +kernel
theorem dX8_doesAct_66 : decode cX8_doesAct 66 = .ok (.aload_n 0, 1) := by decide +kernel
theorem dX8_doesAct_67 : decode cX8_doesAct 67 = .ok (.getfield 28, 3) := by decide +kernel
theorem dX8_doesAct_70 : decode cX8_doesAct 70 = .ok (.iload_n 2, 1) := by decide +kernel
theorem dX8_doesAct_71 : decode cX8_doesAct 71 = .ok (.iaload, 1) := by decide +kernel
theorem dX8_doesAct_72 : decode cX8_doesAct 72 = .ok (.if_icmp .eq 25, 3) := by decide +kernel
theorem dX8_doesAct_75 : decode cX8_doesAct 75 = .ok (.aload_n 0, 1) := by decide +kernel
theorem dX8_doesAct_76 : decode cX8_doesAct 76 = .ok (.getfield 22, 3) := by decide +kernel
theorem dX8_doesAct_79 : decode cX8_doesAct 79 = .ok (.iload_n 1, 1) := by decide +kernel
theorem dX8_doesAct_80 : decode cX8_doesAct 80 = .ok (.iaload, 1) := by decide +kernel
theorem dX8_doesAct_81 : decode cX8_doesAct 81 = .ok (.iconst 4, 1) := by decide +kernel
theorem dX8_doesAct_82 : decode cX8_doesAct 82 = .ok (.iand, 1) := by decide +kernel
theorem dX8_doesAct_83 : decode cX8_doesAct 83 = .ok (.iconst 4, 1) := by decide +kernel
theorem dX8_doesAct_84 : decode cX8_doesAct 84 = .ok (.if_icmp .ne 30, 3) := by decide +kernel
theorem dX8_doesAct_87 : decode cX8_doesAct 87 = .ok (.aload_n 0, 1) := by decide +kernel
theorem dX8_doesAct_88 : decode cX8_doesAct 88 = .ok (.getfield 19, 3) := by decide +kernel
theorem dX8_doesAct_91 : decode cX8_doesAct 91 = .ok (.iload_n 1, 1) := by decide +kernel
theorem dX8_doesAct_92 : decode cX8_doesAct 92 = .ok (.iaload, 1) := by decide +kernel
theorem dX8_doesAct_93 : decode cX8_doesAct 93 = .ok (.iload_n 3, 1) := by decide +kernel
theorem dX8_doesAct_94 : decode cX8_doesAct 94 = .ok (.if_icmp .ne 20, 3) := by decide +kernel
theorem dX8_doesAct_97 : decode cX8_doesAct 97 = .ok (.aload_n 0, 1) := by decide +kernel
theorem dX8_doesAct_98 : decode cX8_doesAct 98 = .ok (.aload_n 0, 1) := by decide +kernel
theorem dX8_doesAct_99 : decode cX8_doesAct 99 = .ok (.getfield 22, 3) := by decide +kernel
theorem dX8_doesAct_102 : decode cX8_doesAct 102 = .ok (.iload_n 1, 1) := by decide +kernel
theorem dX8_doesAct_103 : decode cX8_doesAct 103 = .ok (.iaload, 1) := by decide +kernel
theorem dX8_doesAct_104 : decode cX8_doesAct 104 = .ok (.invokevirtual 151, 3) := by decide +kernel
theorem dX8_doesAct_107 : decode cX8_doesAct 107 = .ok (.ifCond .eq 7, 3) := by decide +kernel
theorem dX8_doesAct_110 : decode cX8_doesAct 110 = .ok (.iconst 1, 1) := by decide +kernel
theorem dX8_doesAct_111 : decode cX8_doesAct 111 = .ok (.goto 4, 3) := by decide +kernel
theorem dX8_doesAct_114 : decode cX8_doesAct 114 = .ok (.iconst 0, 1) := by decide +kernel
theorem dX8_doesAct_115 : decode cX8_doesAct 115 = .ok (.ireturn, 1) := by decide +kernel
theorem dX8_doesAct_116 : decode cX8_doesAct 116 = .ok (.aload_n 0, 1) := by decide +kernel
theorem dX8_doesAct_117 : decode cX8_doesAct 117 = .ok (.getfield 22, 3) := by decide +kernel
theorem dX8_doesAct_120 : decode cX8_doesAct 120 = .ok (.iload_n 1, 1) := by decide +kernel
theorem dX8_doesAct_121 : decode cX8_doesAct 121 = .ok (.iaload, 1) := by decide +kernel
theorem dX8_doesAct_122 : decode cX8_doesAct 122 = .ok (.ifCond .eq 29, 3) := by decide +kernel
theorem dX8_doesAct_125 : decode cX8_doesAct 125 = .ok (.aload_n 0, 1) := by decide +kernel
theorem dX8_doesAct_126 : decode cX8_doesAct 126 = .ok (.getfield 22, 3) := by decide +kernel
theorem dX8_doesAct_129 : decode cX8_doesAct 129 = .ok (.iload_n 1, 1) := by decide +kernel
theorem dX8_doesAct_130 : decode cX8_doesAct 130 = .ok (.iaload, 1) := by decide +kernel
theorem dX8_doesAct_131 : decode cX8_doesAct 131 = .ok (.iconst 1, 1) := by decide +kernel
theorem dX8_doesAct_132 : decode cX8_doesAct 132 = .ok (.if_icmp .ne 23, 3) := by decide +kernel
theorem dX8_doesAct_135 : decode cX8_doesAct 135 = .ok (.iload 5, 2) := by decide +kernel
theorem dX8_doesAct_137 : decode cX8_doesAct 137 = .ok (.ifCond .ne 14, 3) := by decide +kernel
theorem dX8_doesAct_140 : decode cX8_doesAct 140 = .ok (.iload 4, 2) := by decide +kernel
theorem dX8_doesAct_142 : decode cX8_doesAct 142 = .ok (.aload_n 0, 1) := by decide +kernel
theorem dX8_doesAct_143 : decode cX8_doesAct 143 = .ok (.getfield 28, 3) := by decide +kernel
theorem dX8_doesAct_146 : decode cX8_doesAct 146 = .ok (.iload_n 2, 1) := by decide +kernel
theorem dX8_doesAct_147 : decode cX8_doesAct 147 = .ok (.iaload, 1) := by decide +kernel
theorem dX8_doesAct_148 : decode cX8_doesAct 148 = .ok (.if_icmp .ne 7, 3) := by decide +kernel
theorem dX8_doesAct_151 : decode cX8_doesAct 151 = .ok (.iconst 1, 1) := by decide +kernel
theorem dX8_doesAct_152 : decode cX8_doesAct 152 = .ok (.goto 4, 3) := by decide +kernel
theorem dX8_doesAct_155 : decode cX8_doesAct 155 = .ok (.iconst 0, 1) := by decide +kernel
theorem dX8_doesAct_156 : decode cX8_doesAct 156 = .ok (.ireturn, 1) := by decide +kernel
theorem dX8_doesAct_157 : decode cX8_doesAct 157 = .ok (.iload 5, 2) := by decide +kernel
theorem dX8_doesAct_159 : decode cX8_doesAct 159 = .ok (.ifCond .eq 27, 3) := by decide +kernel
theorem dX8_doesAct_162 : decode cX8_doesAct 162 = .ok (.iload 4, 2) := by decide +kernel
theorem dX8_doesAct_164 : decode cX8_doesAct 164 = .ok (.aload_n 0, 1) := by decide +kernel
theorem dX8_doesAct_165 : decode cX8_doesAct 165 = .ok (.getfield 28, 3) := by decide +kernel
theorem dX8_doesAct_168 : decode cX8_doesAct 168 = .ok (.iload_n 2, 1) := by decide +kernel
theorem dX8_doesAct_169 : decode cX8_doesAct 169 = .ok (.iaload, 1) := by decide +kernel
theorem dX8_doesAct_170 : decode cX8_doesAct 170 = .ok (.if_icmp .eq 16, 3) := by decide +kernel
theorem dX8_doesAct_173 : decode cX8_doesAct 173 = .ok (.aload_n 0, 1) := by decide +kernel
theorem dX8_doesAct_174 : decode cX8_doesAct 174 = .ok (.iload 4, 2) := by decide +kernel
theorem dX8_doesAct_176 : decode cX8_doesAct 176 = .ok (.invokevirtual 154, 3) := by decide +kernel
theorem dX8_doesAct_179 : decode cX8_doesAct 179 = .ok (.ifCond .ge 7, 3) := by decide +kernel
theorem dX8_doesAct_182 : decode cX8_doesAct 182 = .ok (.iconst 1, 1) := by decide +kernel
theorem dX8_doesAct_183 : decode cX8_doesAct 183 = .ok (.goto 4, 3) := by decide +kernel
theorem dX8_doesAct_186 : decode cX8_doesAct 186 = .ok (.iconst 0, 1) := by decide +kernel
theorem dX8_doesAct_187 : decode cX8_doesAct 187 = .ok (.ireturn, 1) := by decide +kernel
theorem dX8_doesAct_188 : decode cX8_doesAct 188 = .ok (.iconst 0, 1) := by decide +kernel
theorem dX8_doesAct_189 : decode cX8_doesAct 189 = .ok (.ireturn, 1) := by decide +kernel
theorem dX8_actsAt_0 : decode cX8_actsAt 0 = .ok (.aload_n 0, 1) := by decide +kernel
theorem dX8_actsAt_1 : decode cX8_actsAt 1 = .ok (.iload_n 2, 1) := by decide +kernel
theorem dX8_actsAt_2 : decode cX8_actsAt 2 = .ok (.iconst (-1), 1) := by decide +kernel
theorem dX8_actsAt_3 : decode cX8_actsAt 3 = .ok (.invokevirtual 157, 3) := by decide +kernel
theorem dX8_actsAt_6 : decode cX8_actsAt 6 = .ok (.istore 4, 2) := by decide +kernel
theorem dX8_actsAt_8 : decode cX8_actsAt 8 = .ok (.iload 4, 2) := by decide +kernel
theorem dX8_actsAt_10 : decode cX8_actsAt 10 = .ok (.ifCond .lt 26, 3) := by decide +kernel
theorem dX8_actsAt_13 : decode cX8_actsAt 13 = .ok (.aload_n 0, 1) := by decide +kernel
theorem dX8_actsAt_14 : decode cX8_actsAt 14 = .ok (.iload 4, 2) := by decide +kernel
theorem dX8_actsAt_16 : decode cX8_actsAt 16 = .ok (.iload_n 1, 1) := by decide +kernel
theorem dX8_actsAt_17 : decode cX8_actsAt 17 = .ok (.iload_n 3, 1) := by decide +kernel
theorem dX8_actsAt_18 : decode cX8_actsAt 18 = .ok (.invokevirtual 161, 3) := by decide +kernel
theorem dX8_actsAt_21 : decode cX8_actsAt 21 = .ok (.ifCond .ne 15, 3) := by decide +kernel
theorem dX8_actsAt_24 : decode cX8_actsAt 24 = .ok (.aload_n 0, 1) := by decide +kernel
theorem dX8_actsAt_25 : decode cX8_actsAt 25 = .ok (.iload_n 2, 1) := by decide +kernel
theorem dX8_actsAt_26 : decode cX8_actsAt 26 = .ok (.iload 4, 2) := by decide +kernel
theorem dX8_actsAt_28 : decode cX8_actsAt 28 = .ok (.invokevirtual 157, 3) := by decide +kernel
theorem dX8_actsAt_31 : decode cX8_actsAt 31 = .ok (.istore 4, 2) := by decide +kernel
theorem dX8_actsAt_33 : decode cX8_actsAt 33 = .ok (.goto (-25), 3) := by decide +kernel
theorem dX8_actsAt_36 : decode cX8_actsAt 36 = .ok (.iload 4, 2) := by decide +kernel
theorem dX8_actsAt_38 : decode cX8_actsAt 38 = .ok (.ireturn, 1) := by decide +kernel
theorem dX8_comesTo_0 : decode cX8_comesTo 0 = .ok (.bipush 9, 2) := by decide +kernel
theorem dX8_comesTo_2 : decode cX8_comesTo 2 = .ok (.iload_n 1, 1) := by decide +kernel
theorem dX8_comesTo_3 : decode cX8_comesTo 3 = .ok (.imul, 1) := by decide +kernel
theorem dX8_comesTo_4 : decode cX8_comesTo 4 = .ok (.aload_n 0, 1) := by decide +kernel
theorem dX8_comesTo_5 : decode cX8_comesTo 5 = .ok (.getfield 37, 3) := by decide +kernel
theorem dX8_comesTo_8 : decode cX8_comesTo 8 = .ok (.iload_n 1, 1) := by decide +kernel
theorem dX8_comesTo_9 : decode cX8_comesTo 9 = .ok (.iaload, 1) := by decide +kernel
theorem dX8_comesTo_10 : decode cX8_comesTo 10 = .ok (.iadd, 1) := by decide +kernel
theorem dX8_comesTo_11 : decode cX8_comesTo 11 = .ok (.istore 4, 2) := by decide +kernel
theorem dX8_comesTo_13 : decode cX8_comesTo 13 = .ok (.aload_n 0, 1) := by decide +kernel
theorem dX8_comesTo_14 : decode cX8_comesTo 14 = .ok (.getfield 40, 3) := by decide +kernel
theorem dX8_comesTo_17 : decode cX8_comesTo 17 = .ok (.iload 4, 2) := by decide +kernel
theorem dX8_comesTo_19 : decode cX8_comesTo 19 = .ok (.iload_n 2, 1) := by decide +kernel
theorem dX8_comesTo_20 : decode cX8_comesTo 20 = .ok (.iastore, 1) := by decide +kernel
theorem dX8_comesTo_21 : decode cX8_comesTo 21 = .ok (.aload_n 0, 1) := by decide +kernel
theorem dX8_comesTo_22 : decode cX8_comesTo 22 = .ok (.getfield 43, 3) := by decide +kernel
theorem dX8_comesTo_25 : decode cX8_comesTo 25 = .ok (.iload 4, 2) := by decide +kernel
theorem dX8_comesTo_27 : decode cX8_comesTo 27 = .ok (.aload_n 0, 1) := by decide +kernel
theorem dX8_comesTo_28 : decode cX8_comesTo 28 = .ok (.getfield 37, 3) := by decide +kernel
theorem dX8_comesTo_31 : decode cX8_comesTo 31 = .ok (.iload_n 1, 1) := by decide +kernel
theorem dX8_comesTo_32 : decode cX8_comesTo 32 = .ok (.iaload, 1) := by decide +kernel
theorem dX8_comesTo_33 : decode cX8_comesTo 33 = .ok (.ifCond .ne 17, 3) := by decide +kernel
theorem dX8_comesTo_36 : decode cX8_comesTo 36 = .ok (.aload_n 0, 1) := by decide +kernel
theorem dX8_comesTo_37 : decode cX8_comesTo 37 = .ok (.iload_n 2, 1) := by decide +kernel
theorem dX8_comesTo_38 : decode cX8_comesTo 38 = .ok (.bipush 7, 2) := by decide +kernel
theorem dX8_comesTo_40 : decode cX8_comesTo 40 = .ok (.invokevirtual 165, 3) := by decide +kernel
theorem dX8_comesTo_43 : decode cX8_comesTo 43 = .ok (.ifCond .eq 7, 3) := by decide +kernel
theorem dX8_comesTo_46 : decode cX8_comesTo 46 = .ok (.iload_n 2, 1) := by decide +kernel
theorem dX8_comesTo_47 : decode cX8_comesTo 47 = .ok (.goto 4, 3) := by decide +kernel
theorem dX8_comesTo_50 : decode cX8_comesTo 50 = .ok (.iload_n 3, 1) := by decide +kernel
theorem dX8_comesTo_51 : decode cX8_comesTo 51 = .ok (.iastore, 1) := by decide +kernel
theorem dX8_comesTo_52 : decode cX8_comesTo 52 = .ok (.aload_n 0, 1) := by decide +kernel
theorem dX8_comesTo_53 : decode cX8_comesTo 53 = .ok (.getfield 37, 3) := by decide +kernel
theorem dX8_comesTo_56 : decode cX8_comesTo 56 = .ok (.iload_n 1, 1) := by decide +kernel
theorem dX8_comesTo_57 : decode cX8_comesTo 57 = .ok (.dup2, 1) := by decide +kernel
theorem dX8_comesTo_58 : decode cX8_comesTo 58 = .ok (.iaload, 1) := by decide +kernel
theorem dX8_comesTo_59 : decode cX8_comesTo 59 = .ok (.iconst 1, 1) := by decide +kernel
theorem dX8_comesTo_60 : decode cX8_comesTo 60 = .ok (.iadd, 1) := by decide +kernel
theorem dX8_comesTo_61 : decode cX8_comesTo 61 = .ok (.iastore, 1) := by decide +kernel
theorem dX8_comesTo_62 : decode cX8_comesTo 62 = .ok (.return_, 1) := by decide +kernel
theorem dX8_goes_0 : decode cX8_goes 0 = .ok (.iload_n 2, 1) := by decide +kernel
theorem dX8_goes_1 : decode cX8_goes 1 = .ok (.istore 4, 2) := by decide +kernel
theorem dX8_goes_3 : decode cX8_goes 3 = .ok (.iload_n 3, 1) := by decide +kernel
theorem dX8_goes_4 : decode cX8_goes 4 = .ok (.istore 5, 2) := by decide +kernel
theorem dX8_goes_6 : decode cX8_goes 6 = .ok (.aload_n 0, 1) := by decide +kernel
theorem dX8_goes_7 : decode cX8_goes 7 = .ok (.iload_n 1, 1) := by decide +kernel
theorem dX8_goes_8 : decode cX8_goes 8 = .ok (.iload 4, 2) := by decide +kernel
theorem dX8_goes_10 : decode cX8_goes 10 = .ok (.invokevirtual 169, 3) := by decide +kernel
theorem dX8_goes_13 : decode cX8_goes 13 = .ok (.ifCond .ne 23, 3) := by decide +kernel
theorem dX8_goes_16 : decode cX8_goes 16 = .ok (.iload 4, 2) := by decide +kernel
theorem dX8_goes_18 : decode cX8_goes 18 = .ok (.aload_n 0, 1) := by decide +kernel
theorem dX8_goes_19 : decode cX8_goes 19 = .ok (.getfield 28, 3) := by decide +kernel
theorem dX8_goes_22 : decode cX8_goes 22 = .ok (.iload_n 1, 1) := by decide +kernel
theorem dX8_goes_23 : decode cX8_goes 23 = .ok (.iaload, 1) := by decide +kernel
theorem dX8_goes_24 : decode cX8_goes 24 = .ok (.if_icmp .ne 19, 3) := by decide +kernel
theorem dX8_goes_27 : decode cX8_goes 27 = .ok (.aload_n 0, 1) := by decide +kernel
theorem dX8_goes_28 : decode cX8_goes 28 = .ok (.getfield 37, 3) := by decide +kernel
theorem dX8_goes_31 : decode cX8_goes 31 = .ok (.iload_n 1, 1) := by decide +kernel
theorem dX8_goes_32 : decode cX8_goes 32 = .ok (.iaload, 1) := by decide +kernel
theorem dX8_goes_33 : decode cX8_goes 33 = .ok (.ifCond .le 10, 3) := by decide +kernel
theorem dX8_goes_36 : decode cX8_goes 36 = .ok (.aload_n 0, 1) := by decide +kernel
theorem dX8_goes_37 : decode cX8_goes 37 = .ok (.iload_n 1, 1) := by decide +kernel
theorem dX8_goes_38 : decode cX8_goes 38 = .ok (.iconst 2, 1) := by decide +kernel
theorem dX8_goes_39 : decode cX8_goes 39 = .ok (.invokevirtual 172, 3) := by decide +kernel
theorem dX8_goes_42 : decode cX8_goes 42 = .ok (.return_, 1) := by decide +kernel
theorem dX8_goes_43 : decode cX8_goes 43 = .ok (.aload_n 0, 1) := by decide +kernel
theorem dX8_goes_44 : decode cX8_goes 44 = .ok (.iload_n 1, 1) := by decide +kernel
theorem dX8_goes_45 : decode cX8_goes 45 = .ok (.iload 4, 2) := by decide +kernel
theorem dX8_goes_47 : decode cX8_goes 47 = .ok (.iload 5, 2) := by decide +kernel
theorem dX8_goes_49 : decode cX8_goes 49 = .ok (.invokevirtual 176, 3) := by decide +kernel
theorem dX8_goes_52 : decode cX8_goes 52 = .ok (.aload_n 0, 1) := by decide +kernel
theorem dX8_goes_53 : decode cX8_goes 53 = .ok (.iload_n 1, 1) := by decide +kernel
theorem dX8_goes_54 : decode cX8_goes 54 = .ok (.iload 4, 2) := by decide +kernel
theorem dX8_goes_56 : decode cX8_goes 56 = .ok (.iload 5, 2) := by decide +kernel
theorem dX8_goes_58 : decode cX8_goes 58 = .ok (.invokevirtual 180, 3) := by decide +kernel
theorem dX8_goes_61 : decode cX8_goes 61 = .ok (.istore 6, 2) := by decide +kernel
theorem dX8_goes_63 : decode cX8_goes 63 = .ok (.iload 6, 2) := by decide +kernel
theorem dX8_goes_65 : decode cX8_goes 65 = .ok (.ifCond .ge 11, 3) := by decide +kernel
theorem dX8_goes_68 : decode cX8_goes 68 = .ok (.aload_n 0, 1) := by decide +kernel
theorem dX8_goes_69 : decode cX8_goes 69 = .ok (.iload_n 1, 1) := by decide +kernel
theorem dX8_goes_70 : decode cX8_goes 70 = .ok (.iload 4, 2) := by decide +kernel
theorem dX8_goes_72 : decode cX8_goes 72 = .ok (.invokevirtual 184, 3) := by decide +kernel
theorem dX8_goes_75 : decode cX8_goes 75 = .ok (.return_, 1) := by decide +kernel
theorem dX8_goes_76 : decode cX8_goes 76 = .ok (.aload_n 0, 1) := by decide +kernel
theorem dX8_goes_77 : decode cX8_goes 77 = .ok (.iload_n 1, 1) := by decide +kernel
theorem dX8_goes_78 : decode cX8_goes 78 = .ok (.iload 6, 2) := by decide +kernel
theorem dX8_goes_80 : decode cX8_goes 80 = .ok (.invokevirtual 187, 3) := by decide +kernel
theorem dX8_goes_83 : decode cX8_goes 83 = .ok (.aload_n 0, 1) := by decide +kernel
theorem dX8_goes_84 : decode cX8_goes 84 = .ok (.getfield 13, 3) := by decide +kernel
theorem dX8_goes_87 : decode cX8_goes 87 = .ok (.iload 6, 2) := by decide +kernel
theorem dX8_goes_89 : decode cX8_goes 89 = .ok (.iaload, 1) := by decide +kernel
theorem dX8_goes_90 : decode cX8_goes 90 = .ok (.iconst 2, 1) := by decide +kernel
theorem dX8_goes_91 : decode cX8_goes 91 = .ok (.if_icmp .ne 10, 3) := by decide +kernel
theorem dX8_goes_94 : decode cX8_goes 94 = .ok (.aload_n 0, 1) := by decide +kernel
theorem dX8_goes_95 : decode cX8_goes 95 = .ok (.iload_n 1, 1) := by decide +kernel
theorem dX8_goes_96 : decode cX8_goes 96 = .ok (.iconst 1, 1) := by decide +kernel
theorem dX8_goes_97 : decode cX8_goes 97 = .ok (.invokevirtual 172, 3) := by decide +kernel
theorem dX8_goes_100 : decode cX8_goes 100 = .ok (.return_, 1) := by decide +kernel
theorem dX8_goes_101 : decode cX8_goes 101 = .ok (.aload_n 0, 1) := by decide +kernel
theorem dX8_goes_102 : decode cX8_goes 102 = .ok (.getfield 13, 3) := by decide +kernel
theorem dX8_goes_105 : decode cX8_goes 105 = .ok (.iload 6, 2) := by decide +kernel
theorem dX8_goes_107 : decode cX8_goes 107 = .ok (.iaload, 1) := by decide +kernel
theorem dX8_goes_108 : decode cX8_goes 108 = .ok (.iconst 4, 1) := by decide +kernel
theorem dX8_goes_109 : decode cX8_goes 109 = .ok (.if_icmp .ne 26, 3) := by decide +kernel
theorem dX8_goes_112 : decode cX8_goes 112 = .ok (.aload_n 0, 1) := by decide +kernel
theorem dX8_goes_113 : decode cX8_goes 113 = .ok (.getfield 31, 3) := by decide +kernel
theorem dX8_goes_116 : decode cX8_goes 116 = .ok (.iload_n 1, 1) := by decide +kernel
theorem dX8_goes_117 : decode cX8_goes 117 = .ok (.iconst 2, 1) := by decide +kernel
theorem dX8_goes_118 : decode cX8_goes 118 = .ok (.iastore, 1) := by decide +kernel
theorem dX8_goes_119 : decode cX8_goes 119 = .ok (.aload_n 0, 1) := by decide +kernel
theorem dX8_goes_120 : decode cX8_goes 120 = .ok (.getfield 46, 3) := by decide +kernel
theorem dX8_goes_123 : decode cX8_goes 123 = .ok (.iload_n 1, 1) := by decide +kernel
theorem dX8_goes_124 : decode cX8_goes 124 = .ok (.iconst 0, 1) := by decide +kernel
theorem dX8_goes_125 : decode cX8_goes 125 = .ok (.iastore, 1) := by decide +kernel
theorem dX8_goes_126 : decode cX8_goes 126 = .ok (.aload_n 0, 1) := by decide +kernel
theorem dX8_goes_127 : decode cX8_goes 127 = .ok (.getfield 49, 3) := by decide +kernel
theorem dX8_goes_130 : decode cX8_goes 130 = .ok (.iload_n 1, 1) := by decide +kernel
theorem dX8_goes_131 : decode cX8_goes 131 = .ok (.iload 4, 2) := by decide +kernel
theorem dX8_goes_133 : decode cX8_goes 133 = .ok (.iastore, 1) := by decide +kernel
theorem dX8_goes_134 : decode cX8_goes 134 = .ok (.return_, 1) := by decide +kernel
theorem dX8_goes_135 : decode cX8_goes 135 = .ok (.iload 4, 2) := by decide +kernel
theorem dX8_goes_137 : decode cX8_goes 137 = .ok (.istore 5, 2) := by decide +kernel
theorem dX8_goes_139 : decode cX8_goes 139 = .ok (.aload_n 0, 1) := by decide +kernel
theorem dX8_goes_140 : decode cX8_goes 140 = .ok (.getfield 19, 3) := by decide +kernel
theorem dX8_goes_143 : decode cX8_goes 143 = .ok (.iload 6, 2) := by decide +kernel
theorem dX8_goes_145 : decode cX8_goes 145 = .ok (.iaload, 1) := by decide +kernel
theorem dX8_goes_146 : decode cX8_goes 146 = .ok (.istore 4, 2) := by decide +kernel
theorem dX8_goes_148 : decode cX8_goes 148 = .ok (.goto (-142), 3) := by decide +kernel
theorem dX8_arrives_0 : decode cX8_arrives 0 = .ok (.aload_n 0, 1) := by decide +kernel
theorem dX8_arrives_1 : decode cX8_arrives 1 = .ok (.iload_n 2, 1) := by decide +kernel
theorem dX8_arrives_2 : decode cX8_arrives 2 = .ok (.invokevirtual 148, 3) := by decide +kernel
theorem dX8_arrives_5 : decode cX8_arrives 5 = .ok (.ifCond .eq 132, 3) := by decide +kernel
theorem dX8_arrives_8 : decode cX8_arrives 8 = .ok (.iload_n 2, 1) := by decide +kernel
theorem dX8_arrives_9 : decode cX8_arrives 9 = .ok (.aload_n 0, 1) := by decide +kernel
theorem dX8_arrives_10 : decode cX8_arrives 10 = .ok (.getfield 28, 3) := by decide +kernel
theorem dX8_arrives_13 : decode cX8_arrives 13 = .ok (.iload_n 1, 1) := by decide +kernel
theorem dX8_arrives_14 : decode cX8_arrives 14 = .ok (.iaload, 1) := by decide +kernel
theorem dX8_arrives_15 : decode cX8_arrives 15 = .ok (.if_icmp .eq 122, 3) := by decide +kernel
theorem dX8_arrives_18 : decode cX8_arrives 18 = .ok (.iconst 1, 1) := by decide +kernel
theorem dX8_arrives_19 : decode cX8_arrives 19 = .ok (.iload_n 2, 1) := by decide +kernel
theorem dX8_arrives_20 : decode cX8_arrives 20 = .ok (.ishl, 1) := by decide +kernel
theorem dX8_arrives_21 : decode cX8_arrives 21 = .ok (.istore_n 3, 1) := by decide +kernel
theorem dX8_arrives_22 : decode cX8_arrives 22 = .ok (.iconst 0, 1) := by decide +kernel
theorem dX8_arrives_23 : decode cX8_arrives 23 = .ok (.istore 4, 2) := by decide +kernel
theorem dX8_arrives_25 : decode cX8_arrives 25 = .ok (.iload 4, 2) := by decide +kernel
theorem dX8_arrives_27 : decode cX8_arrives 27 = .ok (.aload_n 0, 1) := by decide +kernel
theorem dX8_arrives_28 : decode cX8_arrives 28 = .ok (.getfield 70, 3) := by decide +kernel
theorem dX8_arrives_31 : decode cX8_arrives 31 = .ok (.iconst 1, 1) := by decide +kernel
theorem dX8_arrives_32 : decode cX8_arrives 32 = .ok (.iaload, 1) := by decide +kernel
theorem dX8_arrives_33 : decode cX8_arrives 33 = .ok (.if_icmp .ge 97, 3) := by decide +kernel
theorem dX8_arrives_36 : decode cX8_arrives 36 = .ok (.aload_n 0, 1) := by decide +kernel
theorem dX8_arrives_37 : decode cX8_arrives 37 = .ok (.getfield 7, 3) := by decide +kernel
theorem dX8_arrives_40 : decode cX8_arrives 40 = .ok (.iload 4, 2) := by decide +kernel
theorem dX8_arrives_42 : decode cX8_arrives 42 = .ok (.iaload, 1) := by decide +kernel
theorem dX8_arrives_43 : decode cX8_arrives 43 = .ok (.iload_n 2, 1) := by decide +kernel
theorem dX8_arrives_44 : decode cX8_arrives 44 = .ok (.if_icmp .ne 30, 3) := by decide +kernel
theorem dX8_arrives_47 : decode cX8_arrives 47 = .ok (.aload_n 0, 1) := by decide +kernel
theorem dX8_arrives_48 : decode cX8_arrives 48 = .ok (.getfield 13, 3) := by decide +kernel
theorem dX8_arrives_51 : decode cX8_arrives 51 = .ok (.iload 4, 2) := by decide +kernel
theorem dX8_arrives_53 : decode cX8_arrives 53 = .ok (.iaload, 1) := by decide +kernel
theorem dX8_arrives_54 : decode cX8_arrives 54 = .ok (.bipush 6, 2) := by decide +kernel
theorem dX8_arrives_56 : decode cX8_arrives 56 = .ok (.if_icmp .ne 18, 3) := by decide +kernel
theorem dX8_arrives_59 : decode cX8_arrives 59 = .ok (.aload_n 0, 1) := by decide +kernel
theorem dX8_arrives_60 : decode cX8_arrives 60 = .ok (.getfield 25, 3) := by decide +kernel
theorem dX8_arrives_63 : decode cX8_arrives 63 = .ok (.iload 4, 2) := by decide +kernel
theorem dX8_arrives_65 : decode cX8_arrives 65 = .ok (.iaload, 1) := by decide +kernel
theorem dX8_arrives_66 : decode cX8_arrives 66 = .ok (.iconst 1, 1) := by decide +kernel
theorem dX8_arrives_67 : decode cX8_arrives 67 = .ok (.if_icmp .ne 7, 3) := by decide +kernel
theorem dX8_arrives_70 : decode cX8_arrives 70 = .ok (.iconst 1, 1) := by decide +kernel
theorem dX8_arrives_71 : decode cX8_arrives 71 = .ok (.goto 4, 3) := by decide +kernel
theorem dX8_arrives_74 : decode cX8_arrives 74 = .ok (.iconst 0, 1) := by decide +kernel
theorem dX8_arrives_75 : decode cX8_arrives 75 = .ok (.istore 5, 2) := by decide +kernel
theorem dX8_arrives_77 : decode cX8_arrives 77 = .ok (.iload 5, 2) := by decide +kernel
theorem dX8_arrives_79 : decode cX8_arrives 79 = .ok (.ifCond .eq 45, 3) := by decide +kernel
theorem dX8_arrives_82 : decode cX8_arrives 82 = .ok (.aload_n 0, 1) := by decide +kernel
theorem dX8_arrives_83 : decode cX8_arrives 83 = .ok (.aload_n 0, 1) := by decide +kernel
theorem dX8_arrives_84 : decode cX8_arrives 84 = .ok (.getfield 19, 3) := by decide +kernel
theorem dX8_arrives_87 : decode cX8_arrives 87 = .ok (.iload 4, 2) := by decide +kernel
theorem dX8_arrives_89 : decode cX8_arrives 89 = .ok (.iaload, 1) := by decide +kernel
theorem dX8_arrives_90 : decode cX8_arrives 90 = .ok (.invokevirtual 148, 3) := by decide +kernel
theorem dX8_arrives_93 : decode cX8_arrives 93 = .ok (.ifCond .eq 31, 3) := by decide +kernel
theorem dX8_arrives_96 : decode cX8_arrives 96 = .ok (.aload_n 0, 1) := by decide +kernel
theorem dX8_arrives_97 : decode cX8_arrives 97 = .ok (.getfield 19, 3) := by decide +kernel
theorem dX8_arrives_100 : decode cX8_arrives 100 = .ok (.iload 4, 2) := by decide +kernel
theorem dX8_arrives_102 : decode cX8_arrives 102 = .ok (.iaload, 1) := by decide +kernel
theorem dX8_arrives_103 : decode cX8_arrives 103 = .ok (.aload_n 0, 1) := by decide +kernel
theorem dX8_arrives_104 : decode cX8_arrives 104 = .ok (.getfield 28, 3) := by decide +kernel
theorem dX8_arrives_107 : decode cX8_arrives 107 = .ok (.iload_n 1, 1) := by decide +kernel
theorem dX8_arrives_108 : decode cX8_arrives 108 = .ok (.iaload, 1) := by decide +kernel
theorem dX8_arrives_109 : decode cX8_arrives 109 = .ok (.if_icmp .eq 15, 3) := by decide +kernel
theorem dX8_arrives_112 : decode cX8_arrives 112 = .ok (.iload_n 3, 1) := by decide +kernel
theorem dX8_arrives_113 : decode cX8_arrives 113 = .ok (.iconst 1, 1) := by decide +kernel
theorem dX8_arrives_114 : decode cX8_arrives 114 = .ok (.aload_n 0, 1) := by decide +kernel
theorem dX8_arrives_115 : decode cX8_arrives 115 = .ok (.getfield 19, 3) := by decide +kernel
theorem dX8_arrives_118 : decode cX8_arrives 118 = .ok (.iload 4, 2) := by decide +kernel
theorem dX8_arrives_120 : decode cX8_arrives 120 = .ok (.iaload, 1) := by decide +kernel
theorem dX8_arrives_121 : decode cX8_arrives 121 = .ok (.ishl, 1) := by decide +kernel
theorem dX8_arrives_122 : decode cX8_arrives 122 = .ok (.ior, 1) := by decide +kernel
theorem dX8_arrives_123 : decode cX8_arrives 123 = .ok (.istore_n 3, 1) := by decide +kernel
theorem dX8_arrives_124 : decode cX8_arrives 124 = .ok (.iinc 4 1, 3) := by decide +kernel
theorem dX8_arrives_127 : decode cX8_arrives 127 = .ok (.goto (-102), 3) := by decide +kernel
theorem dX8_arrives_130 : decode cX8_arrives 130 = .ok (.aload_n 0, 1) := by decide +kernel
theorem dX8_arrives_131 : decode cX8_arrives 131 = .ok (.iload_n 1, 1) := by decide +kernel
theorem dX8_arrives_132 : decode cX8_arrives 132 = .ok (.iload_n 3, 1) := by decide +kernel
theorem dX8_arrives_133 : decode cX8_arrives 133 = .ok (.invokevirtual 190, 3) := by decide +kernel
theorem dX8_arrives_136 : decode cX8_arrives 136 = .ok (.return_, 1) := by decide +kernel
theorem dX8_arrives_137 : decode cX8_arrives 137 = .ok (.aload_n 0, 1) := by decide +kernel
theorem dX8_arrives_138 : decode cX8_arrives 138 = .ok (.iload_n 1, 1) := by decide +kernel
theorem dX8_arrives_139 : decode cX8_arrives 139 = .ok (.iconst 3, 1) := by decide +kernel
theorem dX8_arrives_140 : decode cX8_arrives 140 = .ok (.invokevirtual 172, 3) := by decide +kernel
theorem dX8_arrives_143 : decode cX8_arrives 143 = .ok (.iconst 0, 1) := by decide +kernel
theorem dX8_arrives_144 : decode cX8_arrives 144 = .ok (.istore_n 3, 1) := by decide +kernel
theorem dX8_arrives_145 : decode cX8_arrives 145 = .ok (.iload_n 3, 1) := by decide +kernel
theorem dX8_arrives_146 : decode cX8_arrives 146 = .ok (.aload_n 0, 1) := by decide +kernel
theorem dX8_arrives_147 : decode cX8_arrives 147 = .ok (.getfield 70, 3) := by decide +kernel
theorem dX8_arrives_150 : decode cX8_arrives 150 = .ok (.iconst 1, 1) := by decide +kernel
theorem dX8_arrives_151 : decode cX8_arrives 151 = .ok (.iaload, 1) := by decide +kernel
theorem dX8_arrives_152 : decode cX8_arrives 152 = .ok (.if_icmp .ge 55, 3) := by decide +kernel
theorem dX8_arrives_155 : decode cX8_arrives 155 = .ok (.aload_n 0, 1) := by decide +kernel
theorem dX8_arrives_156 : decode cX8_arrives 156 = .ok (.getfield 7, 3) := by decide +kernel
theorem dX8_arrives_159 : decode cX8_arrives 159 = .ok (.iload_n 3, 1) := by decide +kernel
theorem dX8_arrives_160 : decode cX8_arrives 160 = .ok (.iaload, 1) := by decide +kernel
theorem dX8_arrives_161 : decode cX8_arrives 161 = .ok (.aload_n 0, 1) := by decide +kernel
theorem dX8_arrives_162 : decode cX8_arrives 162 = .ok (.getfield 28, 3) := by decide +kernel
theorem dX8_arrives_165 : decode cX8_arrives 165 = .ok (.iload_n 1, 1) := by decide +kernel
theorem dX8_arrives_166 : decode cX8_arrives 166 = .ok (.iaload, 1) := by decide +kernel
theorem dX8_arrives_167 : decode cX8_arrives 167 = .ok (.if_icmp .ne 34, 3) := by decide +kernel
theorem dX8_arrives_170 : decode cX8_arrives 170 = .ok (.aload_n 0, 1) := by decide +kernel
theorem dX8_arrives_171 : decode cX8_arrives 171 = .ok (.getfield 13, 3) := by decide +kernel
theorem dX8_arrives_174 : decode cX8_arrives 174 = .ok (.iload_n 3, 1) := by decide +kernel
theorem dX8_arrives_175 : decode cX8_arrives 175 = .ok (.iaload, 1) := by decide +kernel
theorem dX8_arrives_176 : decode cX8_arrives 176 = .ok (.iconst 5, 1) := by decide +kernel
theorem dX8_arrives_177 : decode cX8_arrives 177 = .ok (.if_icmp .ne 24, 3) := by decide +kernel
theorem dX8_arrives_180 : decode cX8_arrives 180 = .ok (.aload_n 0, 1) := by decide +kernel
theorem dX8_arrives_181 : decode cX8_arrives 181 = .ok (.getfield 25, 3) := by decide +kernel
theorem dX8_arrives_184 : decode cX8_arrives 184 = .ok (.iload_n 3, 1) := by decide +kernel
theorem dX8_arrives_185 : decode cX8_arrives 185 = .ok (.iaload, 1) := by decide +kernel
theorem dX8_arrives_186 : decode cX8_arrives 186 = .ok (.iconst 1, 1) := by decide +kernel
theorem dX8_arrives_187 : decode cX8_arrives 187 = .ok (.if_icmp .ne 14, 3) := by decide +kernel
theorem dX8_arrives_190 : decode cX8_arrives 190 = .ok (.aload_n 0, 1) := by decide +kernel
theorem dX8_arrives_191 : decode cX8_arrives 191 = .ok (.aload_n 0, 1) := by decide +kernel
theorem dX8_arrives_192 : decode cX8_arrives 192 = .ok (.getfield 28, 3) := by decide +kernel
theorem dX8_arrives_195 : decode cX8_arrives 195 = .ok (.iload_n 1, 1) := by decide +kernel
theorem dX8_arrives_196 : decode cX8_arrives 196 = .ok (.iaload, 1) := by decide +kernel
theorem dX8_arrives_197 : decode cX8_arrives 197 = .ok (.iload_n 2, 1) := by decide +kernel
theorem dX8_arrives_198 : decode cX8_arrives 198 = .ok (.invokevirtual 193, 3) := by decide +kernel
theorem dX8_arrives_201 : decode cX8_arrives 201 = .ok (.iinc 3 1, 3) := by decide +kernel
theorem dX8_arrives_204 : decode cX8_arrives 204 = .ok (.goto (-59), 3) := by decide +kernel
theorem dX8_arrives_207 : decode cX8_arrives 207 = .ok (.return_, 1) := by decide +kernel
theorem dX8_wishesBack_0 : decode cX8_wishesBack 0 = .ok (.aload_n 0, 1) := by decide +kernel
theorem dX8_wishesBack_1 : decode cX8_wishesBack 1 = .ok (.getfield 70, 3) := by decide +kernel
theorem dX8_wishesBack_4 : decode cX8_wishesBack 4 = .ok (.iconst 4, 1) := by decide +kernel
theorem dX8_wishesBack_5 : decode cX8_wishesBack 5 = .ok (.iaload, 1) := by decide +kernel
theorem dX8_wishesBack_6 : decode cX8_wishesBack 6 = .ok (.bipush 8, 2) := by decide +kernel
theorem dX8_wishesBack_8 : decode cX8_wishesBack 8 = .ok (.if_icmp .ne 4, 3) := by decide +kernel
theorem dX8_wishesBack_11 : decode cX8_wishesBack 11 = .ok (.return_, 1) := by decide +kernel
theorem dX8_wishesBack_12 : decode cX8_wishesBack 12 = .ok (.iconst 0, 1) := by decide +kernel
theorem dX8_wishesBack_13 : decode cX8_wishesBack 13 = .ok (.istore_n 3, 1) := by decide +kernel
theorem dX8_wishesBack_14 : decode cX8_wishesBack 14 = .ok (.iload_n 3, 1) := by decide +kernel
theorem dX8_wishesBack_15 : decode cX8_wishesBack 15 = .ok (.aload_n 0, 1) := by decide +kernel
theorem dX8_wishesBack_16 : decode cX8_wishesBack 16 = .ok (.getfield 70, 3) := by decide +kernel
theorem dX8_wishesBack_19 : decode cX8_wishesBack 19 = .ok (.iconst 4, 1) := by decide +kernel
theorem dX8_wishesBack_20 : decode cX8_wishesBack 20 = .ok (.iaload, 1) := by decide +kernel
theorem dX8_wishesBack_21 : decode cX8_wishesBack 21 = .ok (.if_icmp .ge 30, 3) := by decide +kernel
theorem dX8_wishesBack_24 : decode cX8_wishesBack 24 = .ok (.aload_n 0, 1) := by decide +kernel
theorem dX8_wishesBack_25 : decode cX8_wishesBack 25 = .ok (.getfield 61, 3) := by decide +kernel
theorem dX8_wishesBack_28 : decode cX8_wishesBack 28 = .ok (.iload_n 3, 1) := by decide +kernel
theorem dX8_wishesBack_29 : decode cX8_wishesBack 29 = .ok (.iaload, 1) := by decide +kernel
theorem dX8_wishesBack_30 : decode cX8_wishesBack 30 = .ok (.iload_n 1, 1) := by decide +kernel
theorem dX8_wishesBack_31 : decode cX8_wishesBack 31 = .ok (.if_icmp .ne 14, 3) := by decide +kernel
theorem dX8_wishesBack_34 : decode cX8_wishesBack 34 = .ok (.aload_n 0, 1) := by decide +kernel
theorem dX8_wishesBack_35 : decode cX8_wishesBack 35 = .ok (.getfield 64, 3) := by decide +kernel
theorem dX8_wishesBack_38 : decode cX8_wishesBack 38 = .ok (.iload_n 3, 1) := by decide +kernel
theorem dX8_wishesBack_39 : decode cX8_wishesBack 39 = .ok (.iaload, 1) := by decide +kernel
theorem dX8_wishesBack_40 : decode cX8_wishesBack 40 = .ok (.iload_n 2, 1) := by decide +kernel
theorem dX8_wishesBack_41 : decode cX8_wishesBack 41 = .ok (.if_icmp .ne 4, 3) := by decide +kernel
theorem dX8_wishesBack_44 : decode cX8_wishesBack 44 = .ok (.return_, 1) := by decide +kernel
theorem dX8_wishesBack_45 : decode cX8_wishesBack 45 = .ok (.iinc 3 1, 3) := by decide +kernel
theorem dX8_wishesBack_48 : decode cX8_wishesBack 48 = .ok (.goto (-34), 3) := by decide +kernel
theorem dX8_wishesBack_51 : decode cX8_wishesBack 51 = .ok (.aload_n 0, 1) := by decide +kernel
theorem dX8_wishesBack_52 : decode cX8_wishesBack 52 = .ok (.getfield 61, 3) := by decide +kernel
theorem dX8_wishesBack_55 : decode cX8_wishesBack 55 = .ok (.aload_n 0, 1) := by decide +kernel
theorem dX8_wishesBack_56 : decode cX8_wishesBack 56 = .ok (.getfield 70, 3) := by decide +kernel
theorem dX8_wishesBack_59 : decode cX8_wishesBack 59 = .ok (.iconst 4, 1) := by decide +kernel
theorem dX8_wishesBack_60 : decode cX8_wishesBack 60 = .ok (.iaload, 1) := by decide +kernel
theorem dX8_wishesBack_61 : decode cX8_wishesBack 61 = .ok (.iload_n 1, 1) := by decide +kernel
theorem dX8_wishesBack_62 : decode cX8_wishesBack 62 = .ok (.iastore, 1) := by decide +kernel
theorem dX8_wishesBack_63 : decode cX8_wishesBack 63 = .ok (.aload_n 0, 1) := by decide +kernel
theorem dX8_wishesBack_64 : decode cX8_wishesBack 64 = .ok (.getfield 64, 3) := by decide +kernel
theorem dX8_wishesBack_67 : decode cX8_wishesBack 67 = .ok (.aload_n 0, 1) := by decide +kernel
theorem dX8_wishesBack_68 : decode cX8_wishesBack 68 = .ok (.getfield 70, 3) := by decide +kernel
theorem dX8_wishesBack_71 : decode cX8_wishesBack 71 = .ok (.iconst 4, 1) := by decide +kernel
theorem dX8_wishesBack_72 : decode cX8_wishesBack 72 = .ok (.iaload, 1) := by decide +kernel
theorem dX8_wishesBack_73 : decode cX8_wishesBack 73 = .ok (.iload_n 2, 1) := by decide +kernel
theorem dX8_wishesBack_74 : decode cX8_wishesBack 74 = .ok (.iastore, 1) := by decide +kernel
theorem dX8_wishesBack_75 : decode cX8_wishesBack 75 = .ok (.aload_n 0, 1) := by decide +kernel
theorem dX8_wishesBack_76 : decode cX8_wishesBack 76 = .ok (.getfield 70, 3) := by decide +kernel
theorem dX8_wishesBack_79 : decode cX8_wishesBack 79 = .ok (.iconst 4, 1) := by decide +kernel
theorem dX8_wishesBack_80 : decode cX8_wishesBack 80 = .ok (.dup2, 1) := by decide +kernel
theorem dX8_wishesBack_81 : decode cX8_wishesBack 81 = .ok (.iaload, 1) := by decide +kernel
theorem dX8_wishesBack_82 : decode cX8_wishesBack 82 = .ok (.iconst 1, 1) := by decide +kernel
theorem dX8_wishesBack_83 : decode cX8_wishesBack 83 = .ok (.iadd, 1) := by decide +kernel
theorem dX8_wishesBack_84 : decode cX8_wishesBack 84 = .ok (.iastore, 1) := by decide +kernel
theorem dX8_wishesBack_85 : decode cX8_wishesBack 85 = .ok (.return_, 1) := by decide +kernel
theorem dX8_settles_0 : decode cX8_settles 0 = .ok (.iconst 0, 1) := by decide +kernel
theorem dX8_settles_1 : decode cX8_settles 1 = .ok (.istore_n 1, 1) := by decide +kernel
theorem dX8_settles_2 : decode cX8_settles 2 = .ok (.iload_n 1, 1) := by decide +kernel
theorem dX8_settles_3 : decode cX8_settles 3 = .ok (.aload_n 0, 1) := by decide +kernel
theorem dX8_settles_4 : decode cX8_settles 4 = .ok (.getfield 70, 3) := by decide +kernel
theorem dX8_settles_7 : decode cX8_settles 7 = .ok (.iconst 0, 1) := by decide +kernel
theorem dX8_settles_8 : decode cX8_settles 8 = .ok (.iaload, 1) := by decide +kernel
theorem dX8_settles_9 : decode cX8_settles 9 = .ok (.if_icmp .ge 35, 3) := by decide +kernel
theorem dX8_settles_12 : decode cX8_settles 12 = .ok (.aload_n 0, 1) := by decide +kernel
theorem dX8_settles_13 : decode cX8_settles 13 = .ok (.iload_n 1, 1) := by decide +kernel
theorem dX8_settles_14 : decode cX8_settles 14 = .ok (.invokevirtual 154, 3) := by decide +kernel
theorem dX8_settles_17 : decode cX8_settles 17 = .ok (.istore_n 2, 1) := by decide +kernel
theorem dX8_settles_18 : decode cX8_settles 18 = .ok (.iload_n 2, 1) := by decide +kernel
theorem dX8_settles_19 : decode cX8_settles 19 = .ok (.ifCond .lt 19, 3) := by decide +kernel
theorem dX8_settles_22 : decode cX8_settles 22 = .ok (.aload_n 0, 1) := by decide +kernel
theorem dX8_settles_23 : decode cX8_settles 23 = .ok (.iload_n 1, 1) := by decide +kernel
theorem dX8_settles_24 : decode cX8_settles 24 = .ok (.invokevirtual 148, 3) := by decide +kernel
theorem dX8_settles_27 : decode cX8_settles 27 = .ok (.ifCond .eq 11, 3) := by decide +kernel
theorem dX8_settles_30 : decode cX8_settles 30 = .ok (.aload_n 0, 1) := by decide +kernel
theorem dX8_settles_31 : decode cX8_settles 31 = .ok (.iload_n 2, 1) := by decide +kernel
theorem dX8_settles_32 : decode cX8_settles 32 = .ok (.iconst 1, 1) := by decide +kernel
theorem dX8_settles_33 : decode cX8_settles 33 = .ok (.iload_n 1, 1) := by decide +kernel
theorem dX8_settles_34 : decode cX8_settles 34 = .ok (.ishl, 1) := by decide +kernel
theorem dX8_settles_35 : decode cX8_settles 35 = .ok (.invokevirtual 190, 3) := by decide +kernel
theorem dX8_settles_38 : decode cX8_settles 38 = .ok (.iinc 1 1, 3) := by decide +kernel
theorem dX8_settles_41 : decode cX8_settles 41 = .ok (.goto (-39), 3) := by decide +kernel
theorem dX8_settles_44 : decode cX8_settles 44 = .ok (.return_, 1) := by decide +kernel
theorem dX8_dials_0 : decode cX8_dials 0 = .ok (.aload_n 0, 1) := by decide +kernel
theorem dX8_dials_1 : decode cX8_dials 1 = .ok (.getfield 70, 3) := by decide +kernel
theorem dX8_dials_4 : decode cX8_dials 4 = .ok (.iconst 2, 1) := by decide +kernel
theorem dX8_dials_5 : decode cX8_dials 5 = .ok (.iaload, 1) := by decide +kernel
theorem dX8_dials_6 : decode cX8_dials 6 = .ok (.istore_n 3, 1) := by decide +kernel
theorem dX8_dials_7 : decode cX8_dials 7 = .ok (.aload_n 0, 1) := by decide +kernel
theorem dX8_dials_8 : decode cX8_dials 8 = .ok (.getfield 70, 3) := by decide +kernel
theorem dX8_dials_11 : decode cX8_dials 11 = .ok (.iconst 2, 1) := by decide +kernel
theorem dX8_dials_12 : decode cX8_dials 12 = .ok (.dup2, 1) := by decide +kernel
theorem dX8_dials_13 : decode cX8_dials 13 = .ok (.iaload, 1) := by decide +kernel
theorem dX8_dials_14 : decode cX8_dials 14 = .ok (.iconst 1, 1) := by decide +kernel
theorem dX8_dials_15 : decode cX8_dials 15 = .ok (.iadd, 1) := by decide +kernel
theorem dX8_dials_16 : decode cX8_dials 16 = .ok (.iastore, 1) := by decide +kernel
theorem dX8_dials_17 : decode cX8_dials 17 = .ok (.aload_n 0, 1) := by decide +kernel
theorem dX8_dials_18 : decode cX8_dials 18 = .ok (.getfield 28, 3) := by decide +kernel
theorem dX8_dials_21 : decode cX8_dials 21 = .ok (.iload_n 3, 1) := by decide +kernel
theorem dX8_dials_22 : decode cX8_dials 22 = .ok (.iload_n 1, 1) := by decide +kernel
theorem dX8_dials_23 : decode cX8_dials 23 = .ok (.iastore, 1) := by decide +kernel
theorem dX8_dials_24 : decode cX8_dials 24 = .ok (.aload_n 0, 1) := by decide +kernel
theorem dX8_dials_25 : decode cX8_dials 25 = .ok (.getfield 31, 3) := by decide +kernel
theorem dX8_dials_28 : decode cX8_dials 28 = .ok (.iload_n 3, 1) := by decide +kernel
theorem dX8_dials_29 : decode cX8_dials 29 = .ok (.iconst 0, 1) := by decide +kernel
theorem dX8_dials_30 : decode cX8_dials 30 = .ok (.iastore, 1) := by decide +kernel
theorem dX8_dials_31 : decode cX8_dials 31 = .ok (.aload_n 0, 1) := by decide +kernel
theorem dX8_dials_32 : decode cX8_dials 32 = .ok (.getfield 34, 3) := by decide +kernel
theorem dX8_dials_35 : decode cX8_dials 35 = .ok (.iload_n 3, 1) := by decide +kernel
theorem dX8_dials_36 : decode cX8_dials 36 = .ok (.iconst 0, 1) := by decide +kernel
theorem dX8_dials_37 : decode cX8_dials 37 = .ok (.iastore, 1) := by decide +kernel
theorem dX8_dials_38 : decode cX8_dials 38 = .ok (.aload_n 0, 1) := by decide +kernel
theorem dX8_dials_39 : decode cX8_dials 39 = .ok (.getfield 37, 3) := by decide +kernel
theorem dX8_dials_42 : decode cX8_dials 42 = .ok (.iload_n 3, 1) := by decide +kernel
theorem dX8_dials_43 : decode cX8_dials 43 = .ok (.iconst 0, 1) := by decide +kernel
theorem dX8_dials_44 : decode cX8_dials 44 = .ok (.iastore, 1) := by decide +kernel
theorem dX8_dials_45 : decode cX8_dials 45 = .ok (.aload_n 0, 1) := by decide +kernel
theorem dX8_dials_46 : decode cX8_dials 46 = .ok (.getfield 46, 3) := by decide +kernel
theorem dX8_dials_49 : decode cX8_dials 49 = .ok (.iload_n 3, 1) := by decide +kernel
theorem dX8_dials_50 : decode cX8_dials 50 = .ok (.iconst 0, 1) := by decide +kernel
theorem dX8_dials_51 : decode cX8_dials 51 = .ok (.iastore, 1) := by decide +kernel
theorem dX8_dials_52 : decode cX8_dials 52 = .ok (.aload_n 0, 1) := by decide +kernel
theorem dX8_dials_53 : decode cX8_dials 53 = .ok (.getfield 49, 3) := by decide +kernel
theorem dX8_dials_56 : decode cX8_dials 56 = .ok (.iload_n 3, 1) := by decide +kernel
theorem dX8_dials_57 : decode cX8_dials 57 = .ok (.iconst (-1), 1) := by decide +kernel
theorem dX8_dials_58 : decode cX8_dials 58 = .ok (.iastore, 1) := by decide +kernel
theorem dX8_dials_59 : decode cX8_dials 59 = .ok (.aload_n 0, 1) := by decide +kernel
theorem dX8_dials_60 : decode cX8_dials 60 = .ok (.getfield 52, 3) := by decide +kernel
theorem dX8_dials_63 : decode cX8_dials 63 = .ok (.iload_n 3, 1) := by decide +kernel
theorem dX8_dials_64 : decode cX8_dials 64 = .ok (.iconst 0, 1) := by decide +kernel
theorem dX8_dials_65 : decode cX8_dials 65 = .ok (.iastore, 1) := by decide +kernel
theorem dX8_dials_66 : decode cX8_dials 66 = .ok (.aload_n 0, 1) := by decide +kernel
theorem dX8_dials_67 : decode cX8_dials 67 = .ok (.getfield 55, 3) := by decide +kernel
theorem dX8_dials_70 : decode cX8_dials 70 = .ok (.iload_n 3, 1) := by decide +kernel
theorem dX8_dials_71 : decode cX8_dials 71 = .ok (.iconst 0, 1) := by decide +kernel
theorem dX8_dials_72 : decode cX8_dials 72 = .ok (.iastore, 1) := by decide +kernel
theorem dX8_dials_73 : decode cX8_dials 73 = .ok (.aload_n 0, 1) := by decide +kernel
theorem dX8_dials_74 : decode cX8_dials 74 = .ok (.iload_n 3, 1) := by decide +kernel
theorem dX8_dials_75 : decode cX8_dials 75 = .ok (.iload_n 2, 1) := by decide +kernel
theorem dX8_dials_76 : decode cX8_dials 76 = .ok (.iload_n 1, 1) := by decide +kernel
theorem dX8_dials_77 : decode cX8_dials 77 = .ok (.invokevirtual 196, 3) := by decide +kernel
theorem dX8_dials_80 : decode cX8_dials 80 = .ok (.aload_n 0, 1) := by decide +kernel
theorem dX8_dials_81 : decode cX8_dials 81 = .ok (.invokevirtual 199, 3) := by decide +kernel
theorem dX8_dials_84 : decode cX8_dials 84 = .ok (.iload_n 3, 1) := by decide +kernel
theorem dX8_dials_85 : decode cX8_dials 85 = .ok (.ireturn, 1) := by decide +kernel
theorem dX8_dial_0 : decode cX8_dial 0 = .ok (.aload_n 0, 1) := by decide +kernel
theorem dX8_dial_1 : decode cX8_dial 1 = .ok (.iload_n 1, 1) := by decide +kernel
theorem dX8_dial_2 : decode cX8_dial 2 = .ok (.invokevirtual 120, 3) := by decide +kernel
theorem dX8_dial_5 : decode cX8_dial 5 = .ok (.ifCond .eq 11, 3) := by decide +kernel
theorem dX8_dial_8 : decode cX8_dial 8 = .ok (.aload_n 0, 1) := by decide +kernel
theorem dX8_dial_9 : decode cX8_dial 9 = .ok (.iload_n 2, 1) := by decide +kernel
theorem dX8_dial_10 : decode cX8_dial 10 = .ok (.invokevirtual 120, 3) := by decide +kernel
theorem dX8_dial_13 : decode cX8_dial 13 = .ok (.ifCond .ne 9, 3) := by decide +kernel
theorem dX8_dial_16 : decode cX8_dial 16 = .ok (.aload_n 0, 1) := by decide +kernel
theorem dX8_dial_17 : decode cX8_dial 17 = .ok (.iconst 1, 1) := by decide +kernel
theorem dX8_dial_18 : decode cX8_dial 18 = .ok (.invokevirtual 113, 3) := by decide +kernel
theorem dX8_dial_21 : decode cX8_dial 21 = .ok (.ireturn, 1) := by decide +kernel
theorem dX8_dial_22 : decode cX8_dial 22 = .ok (.aload_n 0, 1) := by decide +kernel
theorem dX8_dial_23 : decode cX8_dial 23 = .ok (.getfield 70, 3) := by decide +kernel
theorem dX8_dial_26 : decode cX8_dial 26 = .ok (.iconst 2, 1) := by decide +kernel
theorem dX8_dial_27 : decode cX8_dial 27 = .ok (.iaload, 1) := by decide +kernel
theorem dX8_dial_28 : decode cX8_dial 28 = .ok (.bipush 60, 2) := by decide +kernel
theorem dX8_dial_30 : decode cX8_dial 30 = .ok (.if_icmp .ne 9, 3) := by decide +kernel
theorem dX8_dial_33 : decode cX8_dial 33 = .ok (.aload_n 0, 1) := by decide +kernel
theorem dX8_dial_34 : decode cX8_dial 34 = .ok (.iconst 2, 1) := by decide +kernel
theorem dX8_dial_35 : decode cX8_dial 35 = .ok (.invokevirtual 113, 3) := by decide +kernel
theorem dX8_dial_38 : decode cX8_dial 38 = .ok (.ireturn, 1) := by decide +kernel
theorem dX8_dial_39 : decode cX8_dial 39 = .ok (.aload_n 0, 1) := by decide +kernel
theorem dX8_dial_40 : decode cX8_dial 40 = .ok (.iload_n 1, 1) := by decide +kernel
theorem dX8_dial_41 : decode cX8_dial 41 = .ok (.invokevirtual 148, 3) := by decide +kernel
theorem dX8_dial_44 : decode cX8_dial 44 = .ok (.ifCond .ne 9, 3) := by decide +kernel
theorem dX8_dial_47 : decode cX8_dial 47 = .ok (.aload_n 0, 1) := by decide +kernel
theorem dX8_dial_48 : decode cX8_dial 48 = .ok (.iconst 3, 1) := by decide +kernel
theorem dX8_dial_49 : decode cX8_dial 49 = .ok (.invokevirtual 113, 3) := by decide +kernel
theorem dX8_dial_52 : decode cX8_dial 52 = .ok (.ireturn, 1) := by decide +kernel
theorem dX8_dial_53 : decode cX8_dial 53 = .ok (.aload_n 0, 1) := by decide +kernel
theorem dX8_dial_54 : decode cX8_dial 54 = .ok (.aload_n 0, 1) := by decide +kernel
theorem dX8_dial_55 : decode cX8_dial 55 = .ok (.iload_n 1, 1) := by decide +kernel
theorem dX8_dial_56 : decode cX8_dial 56 = .ok (.iload_n 2, 1) := by decide +kernel
theorem dX8_dial_57 : decode cX8_dial 57 = .ok (.invokevirtual 202, 3) := by decide +kernel
theorem dX8_dial_60 : decode cX8_dial 60 = .ok (.invokevirtual 117, 3) := by decide +kernel
theorem dX8_dial_63 : decode cX8_dial 63 = .ok (.ireturn, 1) := by decide +kernel
theorem dX8_take_0 : decode cX8_take 0 = .ok (.aload_n 0, 1) := by decide +kernel
theorem dX8_take_1 : decode cX8_take 1 = .ok (.iload_n 1, 1) := by decide +kernel
theorem dX8_take_2 : decode cX8_take 2 = .ok (.invokevirtual 120, 3) := by decide +kernel
theorem dX8_take_5 : decode cX8_take 5 = .ok (.ifCond .ne 9, 3) := by decide +kernel
theorem dX8_take_8 : decode cX8_take 8 = .ok (.aload_n 0, 1) := by decide +kernel
theorem dX8_take_9 : decode cX8_take 9 = .ok (.iconst 1, 1) := by decide +kernel
theorem dX8_take_10 : decode cX8_take 10 = .ok (.invokevirtual 113, 3) := by decide +kernel
theorem dX8_take_13 : decode cX8_take 13 = .ok (.ireturn, 1) := by decide +kernel
theorem dX8_take_14 : decode cX8_take 14 = .ok (.aload_n 0, 1) := by decide +kernel
theorem dX8_take_15 : decode cX8_take 15 = .ok (.iload_n 1, 1) := by decide +kernel
theorem dX8_take_16 : decode cX8_take 16 = .ok (.invokevirtual 145, 3) := by decide +kernel
theorem dX8_take_19 : decode cX8_take 19 = .ok (.istore_n 2, 1) := by decide +kernel
theorem dX8_take_20 : decode cX8_take 20 = .ok (.iload_n 2, 1) := by decide +kernel
theorem dX8_take_21 : decode cX8_take 21 = .ok (.ifCond .lt 16, 3) := by decide +kernel
theorem dX8_take_24 : decode cX8_take 24 = .ok (.aload_n 0, 1) := by decide +kernel
theorem dX8_take_25 : decode cX8_take 25 = .ok (.getfield 46, 3) := by decide +kernel
theorem dX8_take_28 : decode cX8_take 28 = .ok (.iload_n 2, 1) := by decide +kernel
theorem dX8_take_29 : decode cX8_take 29 = .ok (.iaload, 1) := by decide +kernel
theorem dX8_take_30 : decode cX8_take 30 = .ok (.iload_n 1, 1) := by decide +kernel
theorem dX8_take_31 : decode cX8_take 31 = .ok (.ishr, 1) := by decide +kernel
theorem dX8_take_32 : decode cX8_take 32 = .ok (.iconst 1, 1) := by decide +kernel
theorem dX8_take_33 : decode cX8_take 33 = .ok (.iand, 1) := by decide +kernel
theorem dX8_take_34 : decode cX8_take 34 = .ok (.ifCond .ne 9, 3) := by decide +kernel
theorem dX8_take_37 : decode cX8_take 37 = .ok (.aload_n 0, 1) := by decide +kernel
theorem dX8_take_38 : decode cX8_take 38 = .ok (.iconst 3, 1) := by decide +kernel
theorem dX8_take_39 : decode cX8_take 39 = .ok (.invokevirtual 113, 3) := by decide +kernel
theorem dX8_take_42 : decode cX8_take 42 = .ok (.ireturn, 1) := by decide +kernel
theorem dX8_take_43 : decode cX8_take 43 = .ok (.aload_n 0, 1) := by decide +kernel
theorem dX8_take_44 : decode cX8_take 44 = .ok (.getfield 31, 3) := by decide +kernel
theorem dX8_take_47 : decode cX8_take 47 = .ok (.iload_n 2, 1) := by decide +kernel
theorem dX8_take_48 : decode cX8_take 48 = .ok (.iconst 1, 1) := by decide +kernel
theorem dX8_take_49 : decode cX8_take 49 = .ok (.iastore, 1) := by decide +kernel
theorem dX8_take_50 : decode cX8_take 50 = .ok (.aload_n 0, 1) := by decide +kernel
theorem dX8_take_51 : decode cX8_take 51 = .ok (.getfield 46, 3) := by decide +kernel
theorem dX8_take_54 : decode cX8_take 54 = .ok (.iload_n 2, 1) := by decide +kernel
theorem dX8_take_55 : decode cX8_take 55 = .ok (.iconst 0, 1) := by decide +kernel
theorem dX8_take_56 : decode cX8_take 56 = .ok (.iastore, 1) := by decide +kernel
theorem dX8_take_57 : decode cX8_take 57 = .ok (.aload_n 0, 1) := by decide +kernel
theorem dX8_take_58 : decode cX8_take 58 = .ok (.getfield 49, 3) := by decide +kernel
theorem dX8_take_61 : decode cX8_take 61 = .ok (.iload_n 2, 1) := by decide +kernel
theorem dX8_take_62 : decode cX8_take 62 = .ok (.iload_n 1, 1) := by decide +kernel
theorem dX8_take_63 : decode cX8_take 63 = .ok (.iastore, 1) := by decide +kernel
theorem dX8_take_64 : decode cX8_take 64 = .ok (.aload_n 0, 1) := by decide +kernel
theorem dX8_take_65 : decode cX8_take 65 = .ok (.invokevirtual 199, 3) := by decide +kernel
theorem dX8_take_68 : decode cX8_take 68 = .ok (.aload_n 0, 1) := by decide +kernel
theorem dX8_take_69 : decode cX8_take 69 = .ok (.iload_n 2, 1) := by decide +kernel
theorem dX8_take_70 : decode cX8_take 70 = .ok (.invokevirtual 117, 3) := by decide +kernel
theorem dX8_take_73 : decode cX8_take 73 = .ok (.ireturn, 1) := by decide +kernel
theorem dX8_down_0 : decode cX8_down 0 = .ok (.aload_n 0, 1) := by decide +kernel
theorem dX8_down_1 : decode cX8_down 1 = .ok (.iload_n 1, 1) := by decide +kernel
theorem dX8_down_2 : decode cX8_down 2 = .ok (.invokevirtual 120, 3) := by decide +kernel
theorem dX8_down_5 : decode cX8_down 5 = .ok (.ifCond .ne 9, 3) := by decide +kernel
theorem dX8_down_8 : decode cX8_down 8 = .ok (.aload_n 0, 1) := by decide +kernel
theorem dX8_down_9 : decode cX8_down 9 = .ok (.iconst 1, 1) := by decide +kernel
theorem dX8_down_10 : decode cX8_down 10 = .ok (.invokevirtual 113, 3) := by decide +kernel
theorem dX8_down_13 : decode cX8_down 13 = .ok (.ireturn, 1) := by decide +kernel
theorem dX8_down_14 : decode cX8_down 14 = .ok (.aload_n 0, 1) := by decide +kernel
theorem dX8_down_15 : decode cX8_down 15 = .ok (.iload_n 1, 1) := by decide +kernel
theorem dX8_down_16 : decode cX8_down 16 = .ok (.invokevirtual 145, 3) := by decide +kernel
theorem dX8_down_19 : decode cX8_down 19 = .ok (.istore_n 2, 1) := by decide +kernel
theorem dX8_down_20 : decode cX8_down 20 = .ok (.iload_n 2, 1) := by decide +kernel
theorem dX8_down_21 : decode cX8_down 21 = .ok (.ifCond .lt 17, 3) := by decide +kernel
theorem dX8_down_24 : decode cX8_down 24 = .ok (.aload_n 0, 1) := by decide +kernel
theorem dX8_down_25 : decode cX8_down 25 = .ok (.getfield 46, 3) := by decide +kernel
theorem dX8_down_28 : decode cX8_down 28 = .ok (.iload_n 2, 1) := by decide +kernel
theorem dX8_down_29 : decode cX8_down 29 = .ok (.iaload, 1) := by decide +kernel
theorem dX8_down_30 : decode cX8_down 30 = .ok (.iload_n 1, 1) := by decide +kernel
theorem dX8_down_31 : decode cX8_down 31 = .ok (.ishr, 1) := by decide +kernel
theorem dX8_down_32 : decode cX8_down 32 = .ok (.iconst 1, 1) := by decide +kernel
theorem dX8_down_33 : decode cX8_down 33 = .ok (.iand, 1) := by decide +kernel
theorem dX8_down_34 : decode cX8_down 34 = .ok (.iconst 1, 1) := by decide +kernel
theorem dX8_down_35 : decode cX8_down 35 = .ok (.if_icmp .ne 9, 3) := by decide +kernel
theorem dX8_down_38 : decode cX8_down 38 = .ok (.aload_n 0, 1) := by decide +kernel
theorem dX8_down_39 : decode cX8_down 39 = .ok (.iconst 3, 1) := by decide +kernel
theorem dX8_down_40 : decode cX8_down 40 = .ok (.invokevirtual 113, 3) := by decide +kernel
theorem dX8_down_43 : decode cX8_down 43 = .ok (.ireturn, 1) := by decide +kernel
theorem dX8_down_44 : decode cX8_down 44 = .ok (.aload_n 0, 1) := by decide +kernel
theorem dX8_down_45 : decode cX8_down 45 = .ok (.iload_n 2, 1) := by decide +kernel
theorem dX8_down_46 : decode cX8_down 46 = .ok (.iconst 4, 1) := by decide +kernel
theorem dX8_down_47 : decode cX8_down 47 = .ok (.invokevirtual 172, 3) := by decide +kernel
theorem dX8_down_50 : decode cX8_down 50 = .ok (.aload_n 0, 1) := by decide +kernel
theorem dX8_down_51 : decode cX8_down 51 = .ok (.invokevirtual 199, 3) := by decide +kernel
theorem dX8_down_54 : decode cX8_down 54 = .ok (.aload_n 0, 1) := by decide +kernel
theorem dX8_down_55 : decode cX8_down 55 = .ok (.iload_n 2, 1) := by decide +kernel
theorem dX8_down_56 : decode cX8_down 56 = .ok (.invokevirtual 117, 3) := by decide +kernel
theorem dX8_down_59 : decode cX8_down 59 = .ok (.ireturn, 1) := by decide +kernel
theorem dX8_rangOn_0 : decode cX8_rangOn 0 = .ok (.aload_n 0, 1) := by decide +kernel
theorem dX8_rangOn_1 : decode cX8_rangOn 1 = .ok (.getfield 52, 3) := by decide +kernel
theorem dX8_rangOn_4 : decode cX8_rangOn 4 = .ok (.iload_n 1, 1) := by decide +kernel
theorem dX8_rangOn_5 : decode cX8_rangOn 5 = .ok (.dup2, 1) := by decide +kernel
theorem dX8_rangOn_6 : decode cX8_rangOn 6 = .ok (.iaload, 1) := by decide +kernel
theorem dX8_rangOn_7 : decode cX8_rangOn 7 = .ok (.iconst 1, 1) := by decide +kernel
theorem dX8_rangOn_8 : decode cX8_rangOn 8 = .ok (.iadd, 1) := by decide +kernel
theorem dX8_rangOn_9 : decode cX8_rangOn 9 = .ok (.iastore, 1) := by decide +kernel
theorem dX8_rangOn_10 : decode cX8_rangOn 10 = .ok (.aload_n 0, 1) := by decide +kernel
theorem dX8_rangOn_11 : decode cX8_rangOn 11 = .ok (.getfield 40, 3) := by decide +kernel
theorem dX8_rangOn_14 : decode cX8_rangOn 14 = .ok (.bipush 9, 2) := by decide +kernel
theorem dX8_rangOn_16 : decode cX8_rangOn 16 = .ok (.iload_n 1, 1) := by decide +kernel
theorem dX8_rangOn_17 : decode cX8_rangOn 17 = .ok (.imul, 1) := by decide +kernel
theorem dX8_rangOn_18 : decode cX8_rangOn 18 = .ok (.aload_n 0, 1) := by decide +kernel
theorem dX8_rangOn_19 : decode cX8_rangOn 19 = .ok (.getfield 37, 3) := by decide +kernel
theorem dX8_rangOn_22 : decode cX8_rangOn 22 = .ok (.iload_n 1, 1) := by decide +kernel
theorem dX8_rangOn_23 : decode cX8_rangOn 23 = .ok (.iaload, 1) := by decide +kernel
theorem dX8_rangOn_24 : decode cX8_rangOn 24 = .ok (.iadd, 1) := by decide +kernel
theorem dX8_rangOn_25 : decode cX8_rangOn 25 = .ok (.iconst 1, 1) := by decide +kernel
theorem dX8_rangOn_26 : decode cX8_rangOn 26 = .ok (.isub, 1) := by decide +kernel
theorem dX8_rangOn_27 : decode cX8_rangOn 27 = .ok (.iaload, 1) := by decide +kernel
theorem dX8_rangOn_28 : decode cX8_rangOn 28 = .ok (.istore_n 2, 1) := by decide +kernel
theorem dX8_rangOn_29 : decode cX8_rangOn 29 = .ok (.aload_n 0, 1) := by decide +kernel
theorem dX8_rangOn_30 : decode cX8_rangOn 30 = .ok (.iload_n 2, 1) := by decide +kernel
theorem dX8_rangOn_31 : decode cX8_rangOn 31 = .ok (.iconst (-1), 1) := by decide +kernel
theorem dX8_rangOn_32 : decode cX8_rangOn 32 = .ok (.invokevirtual 157, 3) := by decide +kernel
theorem dX8_rangOn_35 : decode cX8_rangOn 35 = .ok (.istore_n 3, 1) := by decide +kernel
theorem dX8_rangOn_36 : decode cX8_rangOn 36 = .ok (.iload_n 3, 1) := by decide +kernel
theorem dX8_rangOn_37 : decode cX8_rangOn 37 = .ok (.ifCond .lt 50, 3) := by decide +kernel
theorem dX8_rangOn_40 : decode cX8_rangOn 40 = .ok (.aload_n 0, 1) := by decide +kernel
theorem dX8_rangOn_41 : decode cX8_rangOn 41 = .ok (.getfield 13, 3) := by decide +kernel
theorem dX8_rangOn_44 : decode cX8_rangOn 44 = .ok (.iload_n 3, 1) := by decide +kernel
theorem dX8_rangOn_45 : decode cX8_rangOn 45 = .ok (.iaload, 1) := by decide +kernel
theorem dX8_rangOn_46 : decode cX8_rangOn 46 = .ok (.iconst 1, 1) := by decide +kernel
theorem dX8_rangOn_47 : decode cX8_rangOn 47 = .ok (.if_icmp .ne 30, 3) := by decide +kernel
theorem dX8_rangOn_50 : decode cX8_rangOn 50 = .ok (.aload_n 0, 1) := by decide +kernel
theorem dX8_rangOn_51 : decode cX8_rangOn 51 = .ok (.getfield 22, 3) := by decide +kernel
theorem dX8_rangOn_54 : decode cX8_rangOn 54 = .ok (.iload_n 3, 1) := by decide +kernel
theorem dX8_rangOn_55 : decode cX8_rangOn 55 = .ok (.iaload, 1) := by decide +kernel
theorem dX8_rangOn_56 : decode cX8_rangOn 56 = .ok (.iconst 2, 1) := by decide +kernel
theorem dX8_rangOn_57 : decode cX8_rangOn 57 = .ok (.if_icmp .le 20, 3) := by decide +kernel
theorem dX8_rangOn_60 : decode cX8_rangOn 60 = .ok (.aload_n 0, 1) := by decide +kernel
theorem dX8_rangOn_61 : decode cX8_rangOn 61 = .ok (.getfield 22, 3) := by decide +kernel
theorem dX8_rangOn_64 : decode cX8_rangOn 64 = .ok (.iload_n 3, 1) := by decide +kernel
theorem dX8_rangOn_65 : decode cX8_rangOn 65 = .ok (.iaload, 1) := by decide +kernel
theorem dX8_rangOn_66 : decode cX8_rangOn 66 = .ok (.iconst 2, 1) := by decide +kernel
theorem dX8_rangOn_67 : decode cX8_rangOn 67 = .ok (.isub, 1) := by decide +kernel
theorem dX8_rangOn_68 : decode cX8_rangOn 68 = .ok (.aload_n 0, 1) := by decide +kernel
theorem dX8_rangOn_69 : decode cX8_rangOn 69 = .ok (.getfield 52, 3) := by decide +kernel
theorem dX8_rangOn_72 : decode cX8_rangOn 72 = .ok (.iload_n 1, 1) := by decide +kernel
theorem dX8_rangOn_73 : decode cX8_rangOn 73 = .ok (.iaload, 1) := by decide +kernel
theorem dX8_rangOn_74 : decode cX8_rangOn 74 = .ok (.if_icmp .eq 13, 3) := by decide +kernel
theorem dX8_rangOn_77 : decode cX8_rangOn 77 = .ok (.aload_n 0, 1) := by decide +kernel
theorem dX8_rangOn_78 : decode cX8_rangOn 78 = .ok (.iload_n 2, 1) := by decide +kernel
theorem dX8_rangOn_79 : decode cX8_rangOn 79 = .ok (.iload_n 3, 1) := by decide +kernel
theorem dX8_rangOn_80 : decode cX8_rangOn 80 = .ok (.invokevirtual 157, 3) := by decide +kernel
theorem dX8_rangOn_83 : decode cX8_rangOn 83 = .ok (.istore_n 3, 1) := by decide +kernel
theorem dX8_rangOn_84 : decode cX8_rangOn 84 = .ok (.goto (-48), 3) := by decide +kernel
theorem dX8_rangOn_87 : decode cX8_rangOn 87 = .ok (.iload_n 3, 1) := by decide +kernel
theorem dX8_rangOn_88 : decode cX8_rangOn 88 = .ok (.ifCond .ge 4, 3) := by decide +kernel
theorem dX8_rangOn_91 : decode cX8_rangOn 91 = .ok (.return_, 1) := by decide +kernel
theorem dX8_rangOn_92 : decode cX8_rangOn 92 = .ok (.aload_n 0, 1) := by decide +kernel
theorem dX8_rangOn_93 : decode cX8_rangOn 93 = .ok (.iload_n 1, 1) := by decide +kernel
theorem dX8_rangOn_94 : decode cX8_rangOn 94 = .ok (.iload_n 3, 1) := by decide +kernel
theorem dX8_rangOn_95 : decode cX8_rangOn 95 = .ok (.invokevirtual 187, 3) := by decide +kernel
theorem dX8_rangOn_98 : decode cX8_rangOn 98 = .ok (.aload_n 0, 1) := by decide +kernel
theorem dX8_rangOn_99 : decode cX8_rangOn 99 = .ok (.getfield 46, 3) := by decide +kernel
theorem dX8_rangOn_102 : decode cX8_rangOn 102 = .ok (.iload_n 1, 1) := by decide +kernel
theorem dX8_rangOn_103 : decode cX8_rangOn 103 = .ok (.iconst 0, 1) := by decide +kernel
theorem dX8_rangOn_104 : decode cX8_rangOn 104 = .ok (.iastore, 1) := by decide +kernel
theorem dX8_rangOn_105 : decode cX8_rangOn 105 = .ok (.aload_n 0, 1) := by decide +kernel
theorem dX8_rangOn_106 : decode cX8_rangOn 106 = .ok (.iload_n 1, 1) := by decide +kernel
theorem dX8_rangOn_107 : decode cX8_rangOn 107 = .ok (.aload_n 0, 1) := by decide +kernel
theorem dX8_rangOn_108 : decode cX8_rangOn 108 = .ok (.getfield 19, 3) := by decide +kernel
theorem dX8_rangOn_111 : decode cX8_rangOn 111 = .ok (.iload_n 3, 1) := by decide +kernel
theorem dX8_rangOn_112 : decode cX8_rangOn 112 = .ok (.iaload, 1) := by decide +kernel
theorem dX8_rangOn_113 : decode cX8_rangOn 113 = .ok (.iload_n 2, 1) := by decide +kernel
theorem dX8_rangOn_114 : decode cX8_rangOn 114 = .ok (.invokevirtual 196, 3) := by decide +kernel
theorem dX8_rangOn_117 : decode cX8_rangOn 117 = .ok (.return_, 1) := by decide +kernel
theorem dX8_callsBack_0 : decode cX8_callsBack 0 = .ok (.aload_n 0, 1) := by decide +kernel
theorem dX8_callsBack_1 : decode cX8_callsBack 1 = .ok (.getfield 70, 3) := by decide +kernel
theorem dX8_callsBack_4 : decode cX8_callsBack 4 = .ok (.iconst 4, 1) := by decide +kernel
theorem dX8_callsBack_5 : decode cX8_callsBack 5 = .ok (.iaload, 1) := by decide +kernel
theorem dX8_callsBack_6 : decode cX8_callsBack 6 = .ok (.istore_n 1, 1) := by decide +kernel
theorem dX8_callsBack_7 : decode cX8_callsBack 7 = .ok (.iconst 0, 1) := by decide +kernel
theorem dX8_callsBack_8 : decode cX8_callsBack 8 = .ok (.istore_n 2, 1) := by decide +kernel
theorem dX8_callsBack_9 : decode cX8_callsBack 9 = .ok (.iload_n 2, 1) := by decide +kernel
theorem dX8_callsBack_10 : decode cX8_callsBack 10 = .ok (.iload_n 1, 1) := by decide +kernel
theorem dX8_callsBack_11 : decode cX8_callsBack 11 = .ok (.if_icmp .ge 33, 3) := by decide +kernel
theorem dX8_callsBack_14 : decode cX8_callsBack 14 = .ok (.aload_n 0, 1) := by decide +kernel
theorem dX8_callsBack_15 : decode cX8_callsBack 15 = .ok (.getfield 79, 3) := by decide +kernel
theorem dX8_callsBack_18 : decode cX8_callsBack 18 = .ok (.iload_n 2, 1) := by decide +kernel
theorem dX8_callsBack_19 : decode cX8_callsBack 19 = .ok (.aload_n 0, 1) := by decide +kernel
theorem dX8_callsBack_20 : decode cX8_callsBack 20 = .ok (.getfield 61, 3) := by decide +kernel
theorem dX8_callsBack_23 : decode cX8_callsBack 23 = .ok (.iload_n 2, 1) := by decide +kernel
theorem dX8_callsBack_24 : decode cX8_callsBack 24 = .ok (.iaload, 1) := by decide +kernel
theorem dX8_callsBack_25 : decode cX8_callsBack 25 = .ok (.iastore, 1) := by decide +kernel
theorem dX8_callsBack_26 : decode cX8_callsBack 26 = .ok (.aload_n 0, 1) := by decide +kernel
theorem dX8_callsBack_27 : decode cX8_callsBack 27 = .ok (.getfield 82, 3) := by decide +kernel
theorem dX8_callsBack_30 : decode cX8_callsBack 30 = .ok (.iload_n 2, 1) := by decide +kernel
theorem dX8_callsBack_31 : decode cX8_callsBack 31 = .ok (.aload_n 0, 1) := by decide +kernel
theorem dX8_callsBack_32 : decode cX8_callsBack 32 = .ok (.getfield 64, 3) := by decide +kernel
theorem dX8_callsBack_35 : decode cX8_callsBack 35 = .ok (.iload_n 2, 1) := by decide +kernel
theorem dX8_callsBack_36 : decode cX8_callsBack 36 = .ok (.iaload, 1) := by decide +kernel
theorem dX8_callsBack_37 : decode cX8_callsBack 37 = .ok (.iastore, 1) := by decide +kernel
theorem dX8_callsBack_38 : decode cX8_callsBack 38 = .ok (.iinc 2 1, 3) := by decide +kernel
theorem dX8_callsBack_41 : decode cX8_callsBack 41 = .ok (.goto (-32), 3) := by decide +kernel
theorem dX8_callsBack_44 : decode cX8_callsBack 44 = .ok (.iconst 0, 1) := by decide +kernel
theorem dX8_callsBack_45 : decode cX8_callsBack 45 = .ok (.istore_n 2, 1) := by decide +kernel
theorem dX8_callsBack_46 : decode cX8_callsBack 46 = .ok (.iload_n 2, 1) := by decide +kernel
theorem dX8_callsBack_47 : decode cX8_callsBack 47 = .ok (.iload_n 1, 1) := by decide +kernel
theorem dX8_callsBack_48 : decode cX8_callsBack 48 = .ok (.if_icmp .ge 167, 3) := by decide +kernel
theorem dX8_callsBack_51 : decode cX8_callsBack 51 = .ok (.aload_n 0, 1) := by decide +kernel
theorem dX8_callsBack_52 : decode cX8_callsBack 52 = .ok (.aload_n 0, 1) := by decide +kernel
theorem dX8_callsBack_53 : decode cX8_callsBack 53 = .ok (.getfield 79, 3) := by decide +kernel
theorem dX8_callsBack_56 : decode cX8_callsBack 56 = .ok (.iload_n 2, 1) := by decide +kernel
theorem dX8_callsBack_57 : decode cX8_callsBack 57 = .ok (.iaload, 1) := by decide +kernel
theorem dX8_callsBack_58 : decode cX8_callsBack 58 = .ok (.invokevirtual 148, 3) := by decide +kernel
theorem dX8_callsBack_61 : decode cX8_callsBack 61 = .ok (.ifCond .eq 148, 3) := by decide +kernel
theorem dX8_callsBack_64 : decode cX8_callsBack 64 = .ok (.aload_n 0, 1) := by decide +kernel
theorem dX8_callsBack_65 : decode cX8_callsBack 65 = .ok (.aload_n 0, 1) := by decide +kernel
theorem dX8_callsBack_66 : decode cX8_callsBack 66 = .ok (.getfield 82, 3) := by decide +kernel
theorem dX8_callsBack_69 : decode cX8_callsBack 69 = .ok (.iload_n 2, 1) := by decide +kernel
theorem dX8_callsBack_70 : decode cX8_callsBack 70 = .ok (.iaload, 1) := by decide +kernel
theorem dX8_callsBack_71 : decode cX8_callsBack 71 = .ok (.invokevirtual 148, 3) := by decide +kernel
theorem dX8_callsBack_74 : decode cX8_callsBack 74 = .ok (.ifCond .eq 135, 3) := by decide +kernel
theorem dX8_callsBack_77 : decode cX8_callsBack 77 = .ok (.aload_n 0, 1) := by decide +kernel
theorem dX8_callsBack_78 : decode cX8_callsBack 78 = .ok (.getfield 70, 3) := by decide +kernel
theorem dX8_callsBack_81 : decode cX8_callsBack 81 = .ok (.iconst 2, 1) := by decide +kernel
theorem dX8_callsBack_82 : decode cX8_callsBack 82 = .ok (.iaload, 1) := by decide +kernel
theorem dX8_callsBack_83 : decode cX8_callsBack 83 = .ok (.bipush 60, 2) := by decide +kernel
theorem dX8_callsBack_85 : decode cX8_callsBack 85 = .ok (.if_icmp .ne 6, 3) := by decide +kernel
theorem dX8_callsBack_88 : decode cX8_callsBack 88 = .ok (.goto 121, 3) := by decide +kernel
theorem dX8_callsBack_91 : decode cX8_callsBack 91 = .ok (.iconst 0, 1) := by decide +kernel
theorem dX8_callsBack_92 : decode cX8_callsBack 92 = .ok (.istore_n 3, 1) := by decide +kernel
theorem dX8_callsBack_93 : decode cX8_callsBack 93 = .ok (.aload_n 0, 1) := by decide +kernel
theorem dX8_callsBack_94 : decode cX8_callsBack 94 = .ok (.getfield 61, 3) := by decide +kernel
theorem dX8_callsBack_97 : decode cX8_callsBack 97 = .ok (.iload_n 3, 1) := by decide +kernel
theorem dX8_callsBack_98 : decode cX8_callsBack 98 = .ok (.iaload, 1) := by decide +kernel
theorem dX8_callsBack_99 : decode cX8_callsBack 99 = .ok (.aload_n 0, 1) := by decide +kernel
theorem dX8_callsBack_100 : decode cX8_callsBack 100 = .ok (.getfield 79, 3) := by decide +kernel
theorem dX8_callsBack_103 : decode cX8_callsBack 103 = .ok (.iload_n 2, 1) := by decide +kernel
theorem dX8_callsBack_104 : decode cX8_callsBack 104 = .ok (.iaload, 1) := by decide +kernel
theorem dX8_callsBack_105 : decode cX8_callsBack 105 = .ok (.if_icmp .ne 18, 3) := by decide +kernel
theorem dX8_callsBack_108 : decode cX8_callsBack 108 = .ok (.aload_n 0, 1) := by decide +kernel
theorem dX8_callsBack_109 : decode cX8_callsBack 109 = .ok (.getfield 64, 3) := by decide +kernel
theorem dX8_callsBack_112 : decode cX8_callsBack 112 = .ok (.iload_n 3, 1) := by decide +kernel
theorem dX8_callsBack_113 : decode cX8_callsBack 113 = .ok (.iaload, 1) := by decide +kernel
theorem dX8_callsBack_114 : decode cX8_callsBack 114 = .ok (.aload_n 0, 1) := by decide +kernel
theorem dX8_callsBack_115 : decode cX8_callsBack 115 = .ok (.getfield 82, 3) := by decide +kernel
theorem dX8_callsBack_118 : decode cX8_callsBack 118 = .ok (.iload_n 2, 1) := by decide +kernel
theorem dX8_callsBack_119 : decode cX8_callsBack 119 = .ok (.iaload, 1) := by decide +kernel
theorem dX8_callsBack_120 : decode cX8_callsBack 120 = .ok (.if_icmp .eq 9, 3) := by decide +kernel
theorem dX8_callsBack_123 : decode cX8_callsBack 123 = .ok (.iinc 3 1, 3) := by decide +kernel
theorem dX8_callsBack_126 : decode cX8_callsBack 126 = .ok (.goto (-33), 3) := by decide +kernel
theorem dX8_callsBack_129 : decode cX8_callsBack 129 = .ok (.aload_n 0, 1) := by decide +kernel
theorem dX8_callsBack_130 : decode cX8_callsBack 130 = .ok (.getfield 70, 3) := by decide +kernel
theorem dX8_callsBack_133 : decode cX8_callsBack 133 = .ok (.iconst 4, 1) := by decide +kernel
theorem dX8_callsBack_134 : decode cX8_callsBack 134 = .ok (.dup2, 1) := by decide +kernel
theorem dX8_callsBack_135 : decode cX8_callsBack 135 = .ok (.iaload, 1) := by decide +kernel
theorem dX8_callsBack_136 : decode cX8_callsBack 136 = .ok (.iconst 1, 1) := by decide +kernel
theorem dX8_callsBack_137 : decode cX8_callsBack 137 = .ok (.isub, 1) := by decide +kernel
theorem dX8_callsBack_138 : decode cX8_callsBack 138 = .ok (.iastore, 1) := by decide +kernel
theorem dX8_callsBack_139 : decode cX8_callsBack 139 = .ok (.iload_n 3, 1) := by decide +kernel
theorem dX8_callsBack_140 : decode cX8_callsBack 140 = .ok (.istore 4, 2) := by decide +kernel
theorem dX8_callsBack_142 : decode cX8_callsBack 142 = .ok (.iload 4, 2) := by decide +kernel
theorem dX8_callsBack_144 : decode cX8_callsBack 144 = .ok (.aload_n 0, 1) := by decide +kernel
theorem dX8_callsBack_145 : decode cX8_callsBack 145 = .ok (.getfield 70, 3) := by decide +kernel
theorem dX8_callsBack_148 : decode cX8_callsBack 148 = .ok (.iconst 4, 1) := by decide +kernel
theorem dX8_callsBack_149 : decode cX8_callsBack 149 = .ok (.iaload, 1) := by decide +kernel
theorem dX8_callsBack_150 : decode cX8_callsBack 150 = .ok (.if_icmp .ge 41, 3) := by decide +kernel
theorem dX8_callsBack_153 : decode cX8_callsBack 153 = .ok (.aload_n 0, 1) := by decide +kernel
theorem dX8_callsBack_154 : decode cX8_callsBack 154 = .ok (.getfield 61, 3) := by decide +kernel
theorem dX8_callsBack_157 : decode cX8_callsBack 157 = .ok (.iload 4, 2) := by decide +kernel
theorem dX8_callsBack_159 : decode cX8_callsBack 159 = .ok (.aload_n 0, 1) := by decide +kernel
theorem dX8_callsBack_160 : decode cX8_callsBack 160 = .ok (.getfield 61, 3) := by decide +kernel
theorem dX8_callsBack_163 : decode cX8_callsBack 163 = .ok (.iload 4, 2) := by decide +kernel
theorem dX8_callsBack_165 : decode cX8_callsBack 165 = .ok (.iconst 1, 1) := by decide +kernel
theorem dX8_callsBack_166 : decode cX8_callsBack 166 = .ok (.iadd, 1) := by decide +kernel
theorem dX8_callsBack_167 : decode cX8_callsBack 167 = .ok (.iaload, 1) := by decide +kernel
theorem dX8_callsBack_168 : decode cX8_callsBack 168 = .ok (.iastore, 1) := by decide +kernel
theorem dX8_callsBack_169 : decode cX8_callsBack 169 = .ok (.aload_n 0, 1) := by decide +kernel
theorem dX8_callsBack_170 : decode cX8_callsBack 170 = .ok (.getfield 64, 3) := by decide +kernel
theorem dX8_callsBack_173 : decode cX8_callsBack 173 = .ok (.iload 4, 2) := by decide +kernel
theorem dX8_callsBack_175 : decode cX8_callsBack 175 = .ok (.aload_n 0, 1) := by decide +kernel
theorem dX8_callsBack_176 : decode cX8_callsBack 176 = .ok (.getfield 64, 3) := by decide +kernel
theorem dX8_callsBack_179 : decode cX8_callsBack 179 = .ok (.iload 4, 2) := by decide +kernel
theorem dX8_callsBack_181 : decode cX8_callsBack 181 = .ok (.iconst 1, 1) := by decide +kernel
theorem dX8_callsBack_182 : decode cX8_callsBack 182 = .ok (.iadd, 1) := by decide +kernel
theorem dX8_callsBack_183 : decode cX8_callsBack 183 = .ok (.iaload, 1) := by decide +kernel
theorem dX8_callsBack_184 : decode cX8_callsBack 184 = .ok (.iastore, 1) := by decide +kernel
theorem dX8_callsBack_185 : decode cX8_callsBack 185 = .ok (.iinc 4 1, 3) := by decide +kernel
theorem dX8_callsBack_188 : decode cX8_callsBack 188 = .ok (.goto (-46), 3) := by decide +kernel
theorem dX8_callsBack_191 : decode cX8_callsBack 191 = .ok (.aload_n 0, 1) := by decide +kernel
theorem dX8_callsBack_192 : decode cX8_callsBack 192 = .ok (.aload_n 0, 1) := by decide +kernel
theorem dX8_callsBack_193 : decode cX8_callsBack 193 = .ok (.getfield 79, 3) := by decide +kernel
theorem dX8_callsBack_196 : decode cX8_callsBack 196 = .ok (.iload_n 2, 1) := by decide +kernel
theorem dX8_callsBack_197 : decode cX8_callsBack 197 = .ok (.iaload, 1) := by decide +kernel
theorem dX8_callsBack_198 : decode cX8_callsBack 198 = .ok (.aload_n 0, 1) := by decide +kernel
theorem dX8_callsBack_199 : decode cX8_callsBack 199 = .ok (.getfield 82, 3) := by decide +kernel
theorem dX8_callsBack_202 : decode cX8_callsBack 202 = .ok (.iload_n 2, 1) := by decide +kernel
theorem dX8_callsBack_203 : decode cX8_callsBack 203 = .ok (.iaload, 1) := by decide +kernel
theorem dX8_callsBack_204 : decode cX8_callsBack 204 = .ok (.invokevirtual 202, 3) := by decide +kernel
theorem dX8_callsBack_207 : decode cX8_callsBack 207 = .ok (.istore 4, 2) := by decide +kernel
theorem dX8_callsBack_209 : decode cX8_callsBack 209 = .ok (.iinc 2 1, 3) := by decide +kernel
theorem dX8_callsBack_212 : decode cX8_callsBack 212 = .ok (.goto (-166), 3) := by decide +kernel
theorem dX8_callsBack_215 : decode cX8_callsBack 215 = .ok (.aload_n 0, 1) := by decide +kernel
theorem dX8_callsBack_216 : decode cX8_callsBack 216 = .ok (.invokevirtual 199, 3) := by decide +kernel
theorem dX8_callsBack_219 : decode cX8_callsBack 219 = .ok (.return_, 1) := by decide +kernel
theorem dX8_tick_0 : decode cX8_tick 0 = .ok (.aload_n 0, 1) := by decide +kernel
theorem dX8_tick_1 : decode cX8_tick 1 = .ok (.getfield 70, 3) := by decide +kernel
theorem dX8_tick_4 : decode cX8_tick 4 = .ok (.iconst 3, 1) := by decide +kernel
theorem dX8_tick_5 : decode cX8_tick 5 = .ok (.iaload, 1) := by decide +kernel
theorem dX8_tick_6 : decode cX8_tick 6 = .ok (.sipush 1000, 3) := by decide +kernel
theorem dX8_tick_9 : decode cX8_tick 9 = .ok (.if_icmp .ne 9, 3) := by decide +kernel
theorem dX8_tick_12 : decode cX8_tick 12 = .ok (.aload_n 0, 1) := by decide +kernel
theorem dX8_tick_13 : decode cX8_tick 13 = .ok (.iconst 2, 1) := by decide +kernel
theorem dX8_tick_14 : decode cX8_tick 14 = .ok (.invokevirtual 113, 3) := by decide +kernel
theorem dX8_tick_17 : decode cX8_tick 17 = .ok (.ireturn, 1) := by decide +kernel
theorem dX8_tick_18 : decode cX8_tick 18 = .ok (.aload_n 0, 1) := by decide +kernel
theorem dX8_tick_19 : decode cX8_tick 19 = .ok (.getfield 70, 3) := by decide +kernel
theorem dX8_tick_22 : decode cX8_tick 22 = .ok (.iconst 3, 1) := by decide +kernel
theorem dX8_tick_23 : decode cX8_tick 23 = .ok (.dup2, 1) := by decide +kernel
theorem dX8_tick_24 : decode cX8_tick 24 = .ok (.iaload, 1) := by decide +kernel
theorem dX8_tick_25 : decode cX8_tick 25 = .ok (.iconst 1, 1) := by decide +kernel
theorem dX8_tick_26 : decode cX8_tick 26 = .ok (.iadd, 1) := by decide +kernel
theorem dX8_tick_27 : decode cX8_tick 27 = .ok (.iastore, 1) := by decide +kernel
theorem dX8_tick_28 : decode cX8_tick 28 = .ok (.iconst 0, 1) := by decide +kernel
theorem dX8_tick_29 : decode cX8_tick 29 = .ok (.istore_n 1, 1) := by decide +kernel
theorem dX8_tick_30 : decode cX8_tick 30 = .ok (.iload_n 1, 1) := by decide +kernel
theorem dX8_tick_31 : decode cX8_tick 31 = .ok (.aload_n 0, 1) := by decide +kernel
theorem dX8_tick_32 : decode cX8_tick 32 = .ok (.getfield 70, 3) := by decide +kernel
theorem dX8_tick_35 : decode cX8_tick 35 = .ok (.iconst 2, 1) := by decide +kernel
theorem dX8_tick_36 : decode cX8_tick 36 = .ok (.iaload, 1) := by decide +kernel
theorem dX8_tick_37 : decode cX8_tick 37 = .ok (.if_icmp .ge 57, 3) := by decide +kernel
theorem dX8_tick_40 : decode cX8_tick 40 = .ok (.iconst 0, 1) := by decide +kernel
theorem dX8_tick_41 : decode cX8_tick 41 = .ok (.istore_n 2, 1) := by decide +kernel
theorem dX8_tick_42 : decode cX8_tick 42 = .ok (.iload_n 2, 1) := by decide +kernel
theorem dX8_tick_43 : decode cX8_tick 43 = .ok (.aload_n 0, 1) := by decide +kernel
theorem dX8_tick_44 : decode cX8_tick 44 = .ok (.getfield 37, 3) := by decide +kernel
theorem dX8_tick_47 : decode cX8_tick 47 = .ok (.iload_n 1, 1) := by decide +kernel
theorem dX8_tick_48 : decode cX8_tick 48 = .ok (.iaload, 1) := by decide +kernel
theorem dX8_tick_49 : decode cX8_tick 49 = .ok (.if_icmp .ge 39, 3) := by decide +kernel
theorem dX8_tick_52 : decode cX8_tick 52 = .ok (.aload_n 0, 1) := by decide +kernel
theorem dX8_tick_53 : decode cX8_tick 53 = .ok (.getfield 31, 3) := by decide +kernel
theorem dX8_tick_56 : decode cX8_tick 56 = .ok (.iload_n 1, 1) := by decide +kernel
theorem dX8_tick_57 : decode cX8_tick 57 = .ok (.iaload, 1) := by decide +kernel
theorem dX8_tick_58 : decode cX8_tick 58 = .ok (.iconst 1, 1) := by decide +kernel
theorem dX8_tick_59 : decode cX8_tick 59 = .ok (.if_icmp .ne 29, 3) := by decide +kernel
theorem dX8_tick_62 : decode cX8_tick 62 = .ok (.aload_n 0, 1) := by decide +kernel
theorem dX8_tick_63 : decode cX8_tick 63 = .ok (.getfield 67, 3) := by decide +kernel
theorem dX8_tick_66 : decode cX8_tick 66 = .ok (.aload_n 0, 1) := by decide +kernel
theorem dX8_tick_67 : decode cX8_tick 67 = .ok (.getfield 43, 3) := by decide +kernel
theorem dX8_tick_70 : decode cX8_tick 70 = .ok (.bipush 9, 2) := by decide +kernel
theorem dX8_tick_72 : decode cX8_tick 72 = .ok (.iload_n 1, 1) := by decide +kernel
theorem dX8_tick_73 : decode cX8_tick 73 = .ok (.imul, 1) := by decide +kernel
theorem dX8_tick_74 : decode cX8_tick 74 = .ok (.iload_n 2, 1) := by decide +kernel
theorem dX8_tick_75 : decode cX8_tick 75 = .ok (.iadd, 1) := by decide +kernel
theorem dX8_tick_76 : decode cX8_tick 76 = .ok (.iaload, 1) := by decide +kernel
theorem dX8_tick_77 : decode cX8_tick 77 = .ok (.dup2, 1) := by decide +kernel
theorem dX8_tick_78 : decode cX8_tick 78 = .ok (.iaload, 1) := by decide +kernel
theorem dX8_tick_79 : decode cX8_tick 79 = .ok (.iconst 1, 1) := by decide +kernel
theorem dX8_tick_80 : decode cX8_tick 80 = .ok (.iadd, 1) := by decide +kernel
theorem dX8_tick_81 : decode cX8_tick 81 = .ok (.iastore, 1) := by decide +kernel
theorem dX8_tick_82 : decode cX8_tick 82 = .ok (.iinc 2 1, 3) := by decide +kernel
theorem dX8_tick_85 : decode cX8_tick 85 = .ok (.goto (-43), 3) := by decide +kernel
theorem dX8_tick_88 : decode cX8_tick 88 = .ok (.iinc 1 1, 3) := by decide +kernel
theorem dX8_tick_91 : decode cX8_tick 91 = .ok (.goto (-61), 3) := by decide +kernel
theorem dX8_tick_94 : decode cX8_tick 94 = .ok (.iconst 0, 1) := by decide +kernel
theorem dX8_tick_95 : decode cX8_tick 95 = .ok (.istore_n 1, 1) := by decide +kernel
theorem dX8_tick_96 : decode cX8_tick 96 = .ok (.iload_n 1, 1) := by decide +kernel
theorem dX8_tick_97 : decode cX8_tick 97 = .ok (.aload_n 0, 1) := by decide +kernel
theorem dX8_tick_98 : decode cX8_tick 98 = .ok (.getfield 70, 3) := by decide +kernel
theorem dX8_tick_101 : decode cX8_tick 101 = .ok (.iconst 2, 1) := by decide +kernel
theorem dX8_tick_102 : decode cX8_tick 102 = .ok (.iaload, 1) := by decide +kernel
theorem dX8_tick_103 : decode cX8_tick 103 = .ok (.if_icmp .ge 30, 3) := by decide +kernel
theorem dX8_tick_106 : decode cX8_tick 106 = .ok (.aload_n 0, 1) := by decide +kernel
theorem dX8_tick_107 : decode cX8_tick 107 = .ok (.getfield 31, 3) := by decide +kernel
theorem dX8_tick_110 : decode cX8_tick 110 = .ok (.iload_n 1, 1) := by decide +kernel
theorem dX8_tick_111 : decode cX8_tick 111 = .ok (.iaload, 1) := by decide +kernel
theorem dX8_tick_112 : decode cX8_tick 112 = .ok (.ifCond .eq 6, 3) := by decide +kernel
theorem dX8_tick_115 : decode cX8_tick 115 = .ok (.goto 12, 3) := by decide +kernel
theorem dX8_tick_118 : decode cX8_tick 118 = .ok (.aload_n 0, 1) := by decide +kernel
theorem dX8_tick_119 : decode cX8_tick 119 = .ok (.iload_n 1, 1) := by decide +kernel
theorem dX8_tick_120 : decode cX8_tick 120 = .ok (.invokevirtual 205, 3) := by decide +kernel
theorem dX8_tick_123 : decode cX8_tick 123 = .ok (.aload_n 0, 1) := by decide +kernel
theorem dX8_tick_124 : decode cX8_tick 124 = .ok (.invokevirtual 199, 3) := by decide +kernel
theorem dX8_tick_127 : decode cX8_tick 127 = .ok (.iinc 1 1, 3) := by decide +kernel
theorem dX8_tick_130 : decode cX8_tick 130 = .ok (.goto (-34), 3) := by decide +kernel
theorem dX8_tick_133 : decode cX8_tick 133 = .ok (.aload_n 0, 1) := by decide +kernel
theorem dX8_tick_134 : decode cX8_tick 134 = .ok (.invokevirtual 209, 3) := by decide +kernel
theorem dX8_tick_137 : decode cX8_tick 137 = .ok (.aload_n 0, 1) := by decide +kernel
theorem dX8_tick_138 : decode cX8_tick 138 = .ok (.aload_n 0, 1) := by decide +kernel
theorem dX8_tick_139 : decode cX8_tick 139 = .ok (.getfield 70, 3) := by decide +kernel
theorem dX8_tick_142 : decode cX8_tick 142 = .ok (.iconst 3, 1) := by decide +kernel
theorem dX8_tick_143 : decode cX8_tick 143 = .ok (.iaload, 1) := by decide +kernel
theorem dX8_tick_144 : decode cX8_tick 144 = .ok (.invokevirtual 117, 3) := by decide +kernel
theorem dX8_tick_147 : decode cX8_tick 147 = .ok (.ireturn, 1) := by decide +kernel
theorem dX8_keeps_0 : decode cX8_keeps 0 = .ok (.iconst 0, 1) := by decide +kernel
theorem dX8_keeps_1 : decode cX8_keeps 1 = .ok (.istore 4, 2) := by decide +kernel
theorem dX8_keeps_3 : decode cX8_keeps 3 = .ok (.iload 4, 2) := by decide +kernel
theorem dX8_keeps_5 : decode cX8_keeps 5 = .ok (.aload_n 2, 1) := by decide +kernel
theorem dX8_keeps_6 : decode cX8_keeps 6 = .ok (.arraylength, 1) := by decide +kernel
theorem dX8_keeps_7 : decode cX8_keeps 7 = .ok (.if_icmp .ge 46, 3) := by decide +kernel
theorem dX8_keeps_10 : decode cX8_keeps 10 = .ok (.iload_n 3, 1) := by decide +kernel
theorem dX8_keeps_11 : decode cX8_keeps 11 = .ok (.ifCond .eq 16, 3) := by decide +kernel
theorem dX8_keeps_14 : decode cX8_keeps 14 = .ok (.aload_n 1, 1) := by decide +kernel
theorem dX8_keeps_15 : decode cX8_keeps 15 = .ok (.aload_n 0, 1) := by decide +kernel
theorem dX8_keeps_16 : decode cX8_keeps 16 = .ok (.getfield 212, 3) := by decide +kernel
theorem dX8_keeps_19 : decode cX8_keeps 19 = .ok (.aload_n 2, 1) := by decide +kernel
theorem dX8_keeps_20 : decode cX8_keeps 20 = .ok (.iload 4, 2) := by decide +kernel
theorem dX8_keeps_22 : decode cX8_keeps 22 = .ok (.iaload, 1) := by decide +kernel
theorem dX8_keeps_23 : decode cX8_keeps 23 = .ok (.iastore, 1) := by decide +kernel
theorem dX8_keeps_24 : decode cX8_keeps 24 = .ok (.goto 13, 3) := by decide +kernel
theorem dX8_keeps_27 : decode cX8_keeps 27 = .ok (.aload_n 2, 1) := by decide +kernel
theorem dX8_keeps_28 : decode cX8_keeps 28 = .ok (.iload 4, 2) := by decide +kernel
theorem dX8_keeps_30 : decode cX8_keeps 30 = .ok (.aload_n 1, 1) := by decide +kernel
theorem dX8_keeps_31 : decode cX8_keeps 31 = .ok (.aload_n 0, 1) := by decide +kernel
theorem dX8_keeps_32 : decode cX8_keeps 32 = .ok (.getfield 212, 3) := by decide +kernel
theorem dX8_keeps_35 : decode cX8_keeps 35 = .ok (.iaload, 1) := by decide +kernel
theorem dX8_keeps_36 : decode cX8_keeps 36 = .ok (.iastore, 1) := by decide +kernel
theorem dX8_keeps_37 : decode cX8_keeps 37 = .ok (.aload_n 0, 1) := by decide +kernel
theorem dX8_keeps_38 : decode cX8_keeps 38 = .ok (.dup, 1) := by decide +kernel
theorem dX8_keeps_39 : decode cX8_keeps 39 = .ok (.getfield 212, 3) := by decide +kernel
theorem dX8_keeps_42 : decode cX8_keeps 42 = .ok (.iconst 1, 1) := by decide +kernel
theorem dX8_keeps_43 : decode cX8_keeps 43 = .ok (.iadd, 1) := by decide +kernel
theorem dX8_keeps_44 : decode cX8_keeps 44 = .ok (.putfield 212, 3) := by decide +kernel
theorem dX8_keeps_47 : decode cX8_keeps 47 = .ok (.iinc 4 1, 3) := by decide +kernel
theorem dX8_keeps_50 : decode cX8_keeps 50 = .ok (.goto (-47), 3) := by decide +kernel
theorem dX8_keeps_53 : decode cX8_keeps 53 = .ok (.return_, 1) := by decide +kernel
theorem dX8_keepsAll_0 : decode cX8_keepsAll 0 = .ok (.aload_n 0, 1) := by decide +kernel
theorem dX8_keepsAll_1 : decode cX8_keepsAll 1 = .ok (.iconst 0, 1) := by decide +kernel
theorem dX8_keepsAll_2 : decode cX8_keepsAll 2 = .ok (.putfield 212, 3) := by decide +kernel
theorem dX8_keepsAll_5 : decode cX8_keepsAll 5 = .ok (.aload_n 0, 1) := by decide +kernel
theorem dX8_keepsAll_6 : decode cX8_keepsAll 6 = .ok (.aload_n 1, 1) := by decide +kernel
theorem dX8_keepsAll_7 : decode cX8_keepsAll 7 = .ok (.aload_n 0, 1) := by decide +kernel
theorem dX8_keepsAll_8 : decode cX8_keepsAll 8 = .ok (.getfield 7, 3) := by decide +kernel
theorem dX8_keepsAll_11 : decode cX8_keepsAll 11 = .ok (.iload_n 2, 1) := by decide +kernel
theorem dX8_keepsAll_12 : decode cX8_keepsAll 12 = .ok (.invokevirtual 215, 3) := by decide +kernel
theorem dX8_keepsAll_15 : decode cX8_keepsAll 15 = .ok (.aload_n 0, 1) := by decide +kernel
theorem dX8_keepsAll_16 : decode cX8_keepsAll 16 = .ok (.aload_n 1, 1) := by decide +kernel
theorem dX8_keepsAll_17 : decode cX8_keepsAll 17 = .ok (.aload_n 0, 1) := by decide +kernel
theorem dX8_keepsAll_18 : decode cX8_keepsAll 18 = .ok (.getfield 13, 3) := by decide +kernel
theorem dX8_keepsAll_21 : decode cX8_keepsAll 21 = .ok (.iload_n 2, 1) := by decide +kernel
theorem dX8_keepsAll_22 : decode cX8_keepsAll 22 = .ok (.invokevirtual 215, 3) := by decide +kernel
theorem dX8_keepsAll_25 : decode cX8_keepsAll 25 = .ok (.aload_n 0, 1) := by decide +kernel
theorem dX8_keepsAll_26 : decode cX8_keepsAll 26 = .ok (.aload_n 1, 1) := by decide +kernel
theorem dX8_keepsAll_27 : decode cX8_keepsAll 27 = .ok (.aload_n 0, 1) := by decide +kernel
theorem dX8_keepsAll_28 : decode cX8_keepsAll 28 = .ok (.getfield 16, 3) := by decide +kernel
theorem dX8_keepsAll_31 : decode cX8_keepsAll 31 = .ok (.iload_n 2, 1) := by decide +kernel
theorem dX8_keepsAll_32 : decode cX8_keepsAll 32 = .ok (.invokevirtual 215, 3) := by decide +kernel
theorem dX8_keepsAll_35 : decode cX8_keepsAll 35 = .ok (.aload_n 0, 1) := by decide +kernel
theorem dX8_keepsAll_36 : decode cX8_keepsAll 36 = .ok (.aload_n 1, 1) := by decide +kernel
theorem dX8_keepsAll_37 : decode cX8_keepsAll 37 = .ok (.aload_n 0, 1) := by decide +kernel
theorem dX8_keepsAll_38 : decode cX8_keepsAll 38 = .ok (.getfield 19, 3) := by decide +kernel
theorem dX8_keepsAll_41 : decode cX8_keepsAll 41 = .ok (.iload_n 2, 1) := by decide +kernel
theorem dX8_keepsAll_42 : decode cX8_keepsAll 42 = .ok (.invokevirtual 215, 3) := by decide +kernel
theorem dX8_keepsAll_45 : decode cX8_keepsAll 45 = .ok (.aload_n 0, 1) := by decide +kernel
theorem dX8_keepsAll_46 : decode cX8_keepsAll 46 = .ok (.aload_n 1, 1) := by decide +kernel
theorem dX8_keepsAll_47 : decode cX8_keepsAll 47 = .ok (.aload_n 0, 1) := by decide +kernel
theorem dX8_keepsAll_48 : decode cX8_keepsAll 48 = .ok (.getfield 22, 3) := by decide +kernel
theorem dX8_keepsAll_51 : decode cX8_keepsAll 51 = .ok (.iload_n 2, 1) := by decide +kernel
theorem dX8_keepsAll_52 : decode cX8_keepsAll 52 = .ok (.invokevirtual 215, 3) := by decide +kernel
theorem dX8_keepsAll_55 : decode cX8_keepsAll 55 = .ok (.aload_n 0, 1) := by decide +kernel
theorem dX8_keepsAll_56 : decode cX8_keepsAll 56 = .ok (.aload_n 1, 1) := by decide +kernel
theorem dX8_keepsAll_57 : decode cX8_keepsAll 57 = .ok (.aload_n 0, 1) := by decide +kernel
theorem dX8_keepsAll_58 : decode cX8_keepsAll 58 = .ok (.getfield 25, 3) := by decide +kernel
theorem dX8_keepsAll_61 : decode cX8_keepsAll 61 = .ok (.iload_n 2, 1) := by decide +kernel
theorem dX8_keepsAll_62 : decode cX8_keepsAll 62 = .ok (.invokevirtual 215, 3) := by decide +kernel
theorem dX8_keepsAll_65 : decode cX8_keepsAll 65 = .ok (.aload_n 0, 1) := by decide +kernel
theorem dX8_keepsAll_66 : decode cX8_keepsAll 66 = .ok (.aload_n 1, 1) := by decide +kernel
theorem dX8_keepsAll_67 : decode cX8_keepsAll 67 = .ok (.aload_n 0, 1) := by decide +kernel
theorem dX8_keepsAll_68 : decode cX8_keepsAll 68 = .ok (.getfield 28, 3) := by decide +kernel
theorem dX8_keepsAll_71 : decode cX8_keepsAll 71 = .ok (.iload_n 2, 1) := by decide +kernel
theorem dX8_keepsAll_72 : decode cX8_keepsAll 72 = .ok (.invokevirtual 215, 3) := by decide +kernel
theorem dX8_keepsAll_75 : decode cX8_keepsAll 75 = .ok (.aload_n 0, 1) := by decide +kernel
theorem dX8_keepsAll_76 : decode cX8_keepsAll 76 = .ok (.aload_n 1, 1) := by decide +kernel
theorem dX8_keepsAll_77 : decode cX8_keepsAll 77 = .ok (.aload_n 0, 1) := by decide +kernel
theorem dX8_keepsAll_78 : decode cX8_keepsAll 78 = .ok (.getfield 31, 3) := by decide +kernel
theorem dX8_keepsAll_81 : decode cX8_keepsAll 81 = .ok (.iload_n 2, 1) := by decide +kernel
theorem dX8_keepsAll_82 : decode cX8_keepsAll 82 = .ok (.invokevirtual 215, 3) := by decide +kernel
theorem dX8_keepsAll_85 : decode cX8_keepsAll 85 = .ok (.aload_n 0, 1) := by decide +kernel
theorem dX8_keepsAll_86 : decode cX8_keepsAll 86 = .ok (.aload_n 1, 1) := by decide +kernel
theorem dX8_keepsAll_87 : decode cX8_keepsAll 87 = .ok (.aload_n 0, 1) := by decide +kernel
theorem dX8_keepsAll_88 : decode cX8_keepsAll 88 = .ok (.getfield 34, 3) := by decide +kernel
theorem dX8_keepsAll_91 : decode cX8_keepsAll 91 = .ok (.iload_n 2, 1) := by decide +kernel
theorem dX8_keepsAll_92 : decode cX8_keepsAll 92 = .ok (.invokevirtual 215, 3) := by decide +kernel
theorem dX8_keepsAll_95 : decode cX8_keepsAll 95 = .ok (.aload_n 0, 1) := by decide +kernel
theorem dX8_keepsAll_96 : decode cX8_keepsAll 96 = .ok (.aload_n 1, 1) := by decide +kernel
theorem dX8_keepsAll_97 : decode cX8_keepsAll 97 = .ok (.aload_n 0, 1) := by decide +kernel
theorem dX8_keepsAll_98 : decode cX8_keepsAll 98 = .ok (.getfield 37, 3) := by decide +kernel
theorem dX8_keepsAll_101 : decode cX8_keepsAll 101 = .ok (.iload_n 2, 1) := by decide +kernel
theorem dX8_keepsAll_102 : decode cX8_keepsAll 102 = .ok (.invokevirtual 215, 3) := by decide +kernel
theorem dX8_keepsAll_105 : decode cX8_keepsAll 105 = .ok (.aload_n 0, 1) := by decide +kernel
theorem dX8_keepsAll_106 : decode cX8_keepsAll 106 = .ok (.aload_n 1, 1) := by decide +kernel
theorem dX8_keepsAll_107 : decode cX8_keepsAll 107 = .ok (.aload_n 0, 1) := by decide +kernel
theorem dX8_keepsAll_108 : decode cX8_keepsAll 108 = .ok (.getfield 40, 3) := by decide +kernel
theorem dX8_keepsAll_111 : decode cX8_keepsAll 111 = .ok (.iload_n 2, 1) := by decide +kernel
theorem dX8_keepsAll_112 : decode cX8_keepsAll 112 = .ok (.invokevirtual 215, 3) := by decide +kernel
theorem dX8_keepsAll_115 : decode cX8_keepsAll 115 = .ok (.aload_n 0, 1) := by decide +kernel
theorem dX8_keepsAll_116 : decode cX8_keepsAll 116 = .ok (.aload_n 1, 1) := by decide +kernel
theorem dX8_keepsAll_117 : decode cX8_keepsAll 117 = .ok (.aload_n 0, 1) := by decide +kernel
theorem dX8_keepsAll_118 : decode cX8_keepsAll 118 = .ok (.getfield 43, 3) := by decide +kernel
theorem dX8_keepsAll_121 : decode cX8_keepsAll 121 = .ok (.iload_n 2, 1) := by decide +kernel
theorem dX8_keepsAll_122 : decode cX8_keepsAll 122 = .ok (.invokevirtual 215, 3) := by decide +kernel
theorem dX8_keepsAll_125 : decode cX8_keepsAll 125 = .ok (.aload_n 0, 1) := by decide +kernel
theorem dX8_keepsAll_126 : decode cX8_keepsAll 126 = .ok (.aload_n 1, 1) := by decide +kernel
theorem dX8_keepsAll_127 : decode cX8_keepsAll 127 = .ok (.aload_n 0, 1) := by decide +kernel
theorem dX8_keepsAll_128 : decode cX8_keepsAll 128 = .ok (.getfield 46, 3) := by decide +kernel
theorem dX8_keepsAll_131 : decode cX8_keepsAll 131 = .ok (.iload_n 2, 1) := by decide +kernel
theorem dX8_keepsAll_132 : decode cX8_keepsAll 132 = .ok (.invokevirtual 215, 3) := by decide +kernel
theorem dX8_keepsAll_135 : decode cX8_keepsAll 135 = .ok (.aload_n 0, 1) := by decide +kernel
theorem dX8_keepsAll_136 : decode cX8_keepsAll 136 = .ok (.aload_n 1, 1) := by decide +kernel
theorem dX8_keepsAll_137 : decode cX8_keepsAll 137 = .ok (.aload_n 0, 1) := by decide +kernel
theorem dX8_keepsAll_138 : decode cX8_keepsAll 138 = .ok (.getfield 49, 3) := by decide +kernel
theorem dX8_keepsAll_141 : decode cX8_keepsAll 141 = .ok (.iload_n 2, 1) := by decide +kernel
theorem dX8_keepsAll_142 : decode cX8_keepsAll 142 = .ok (.invokevirtual 215, 3) := by decide +kernel
theorem dX8_keepsAll_145 : decode cX8_keepsAll 145 = .ok (.aload_n 0, 1) := by decide +kernel
theorem dX8_keepsAll_146 : decode cX8_keepsAll 146 = .ok (.aload_n 1, 1) := by decide +kernel
theorem dX8_keepsAll_147 : decode cX8_keepsAll 147 = .ok (.aload_n 0, 1) := by decide +kernel
theorem dX8_keepsAll_148 : decode cX8_keepsAll 148 = .ok (.getfield 52, 3) := by decide +kernel
theorem dX8_keepsAll_151 : decode cX8_keepsAll 151 = .ok (.iload_n 2, 1) := by decide +kernel
theorem dX8_keepsAll_152 : decode cX8_keepsAll 152 = .ok (.invokevirtual 215, 3) := by decide +kernel
theorem dX8_keepsAll_155 : decode cX8_keepsAll 155 = .ok (.aload_n 0, 1) := by decide +kernel
theorem dX8_keepsAll_156 : decode cX8_keepsAll 156 = .ok (.aload_n 1, 1) := by decide +kernel
theorem dX8_keepsAll_157 : decode cX8_keepsAll 157 = .ok (.aload_n 0, 1) := by decide +kernel
theorem dX8_keepsAll_158 : decode cX8_keepsAll 158 = .ok (.getfield 55, 3) := by decide +kernel
theorem dX8_keepsAll_161 : decode cX8_keepsAll 161 = .ok (.iload_n 2, 1) := by decide +kernel
theorem dX8_keepsAll_162 : decode cX8_keepsAll 162 = .ok (.invokevirtual 215, 3) := by decide +kernel
theorem dX8_keepsAll_165 : decode cX8_keepsAll 165 = .ok (.aload_n 0, 1) := by decide +kernel
theorem dX8_keepsAll_166 : decode cX8_keepsAll 166 = .ok (.aload_n 1, 1) := by decide +kernel
theorem dX8_keepsAll_167 : decode cX8_keepsAll 167 = .ok (.aload_n 0, 1) := by decide +kernel
theorem dX8_keepsAll_168 : decode cX8_keepsAll 168 = .ok (.getfield 58, 3) := by decide +kernel
theorem dX8_keepsAll_171 : decode cX8_keepsAll 171 = .ok (.iload_n 2, 1) := by decide +kernel
theorem dX8_keepsAll_172 : decode cX8_keepsAll 172 = .ok (.invokevirtual 215, 3) := by decide +kernel
theorem dX8_keepsAll_175 : decode cX8_keepsAll 175 = .ok (.aload_n 0, 1) := by decide +kernel
theorem dX8_keepsAll_176 : decode cX8_keepsAll 176 = .ok (.aload_n 1, 1) := by decide +kernel
theorem dX8_keepsAll_177 : decode cX8_keepsAll 177 = .ok (.aload_n 0, 1) := by decide +kernel
theorem dX8_keepsAll_178 : decode cX8_keepsAll 178 = .ok (.getfield 61, 3) := by decide +kernel
theorem dX8_keepsAll_181 : decode cX8_keepsAll 181 = .ok (.iload_n 2, 1) := by decide +kernel
theorem dX8_keepsAll_182 : decode cX8_keepsAll 182 = .ok (.invokevirtual 215, 3) := by decide +kernel
theorem dX8_keepsAll_185 : decode cX8_keepsAll 185 = .ok (.aload_n 0, 1) := by decide +kernel
theorem dX8_keepsAll_186 : decode cX8_keepsAll 186 = .ok (.aload_n 1, 1) := by decide +kernel
theorem dX8_keepsAll_187 : decode cX8_keepsAll 187 = .ok (.aload_n 0, 1) := by decide +kernel
theorem dX8_keepsAll_188 : decode cX8_keepsAll 188 = .ok (.getfield 64, 3) := by decide +kernel
theorem dX8_keepsAll_191 : decode cX8_keepsAll 191 = .ok (.iload_n 2, 1) := by decide +kernel
theorem dX8_keepsAll_192 : decode cX8_keepsAll 192 = .ok (.invokevirtual 215, 3) := by decide +kernel
theorem dX8_keepsAll_195 : decode cX8_keepsAll 195 = .ok (.aload_n 0, 1) := by decide +kernel
theorem dX8_keepsAll_196 : decode cX8_keepsAll 196 = .ok (.aload_n 1, 1) := by decide +kernel
theorem dX8_keepsAll_197 : decode cX8_keepsAll 197 = .ok (.aload_n 0, 1) := by decide +kernel
theorem dX8_keepsAll_198 : decode cX8_keepsAll 198 = .ok (.getfield 67, 3) := by decide +kernel
theorem dX8_keepsAll_201 : decode cX8_keepsAll 201 = .ok (.iload_n 2, 1) := by decide +kernel
theorem dX8_keepsAll_202 : decode cX8_keepsAll 202 = .ok (.invokevirtual 215, 3) := by decide +kernel
theorem dX8_keepsAll_205 : decode cX8_keepsAll 205 = .ok (.aload_n 0, 1) := by decide +kernel
theorem dX8_keepsAll_206 : decode cX8_keepsAll 206 = .ok (.aload_n 1, 1) := by decide +kernel
theorem dX8_keepsAll_207 : decode cX8_keepsAll 207 = .ok (.aload_n 0, 1) := by decide +kernel
theorem dX8_keepsAll_208 : decode cX8_keepsAll 208 = .ok (.getfield 70, 3) := by decide +kernel
theorem dX8_keepsAll_211 : decode cX8_keepsAll 211 = .ok (.iload_n 2, 1) := by decide +kernel
theorem dX8_keepsAll_212 : decode cX8_keepsAll 212 = .ok (.invokevirtual 215, 3) := by decide +kernel
theorem dX8_keepsAll_215 : decode cX8_keepsAll 215 = .ok (.return_, 1) := by decide +kernel
theorem dX8_image_0 : decode cX8_image 0 = .ok (.aload_n 0, 1) := by decide +kernel
theorem dX8_image_1 : decode cX8_image 1 = .ok (.aload_n 0, 1) := by decide +kernel
theorem dX8_image_2 : decode cX8_image 2 = .ok (.getfield 73, 3) := by decide +kernel
theorem dX8_image_5 : decode cX8_image 5 = .ok (.iconst 1, 1) := by decide +kernel
theorem dX8_image_6 : decode cX8_image 6 = .ok (.invokevirtual 219, 3) := by decide +kernel
theorem dX8_image_9 : decode cX8_image 9 = .ok (.aload_n 0, 1) := by decide +kernel
theorem dX8_image_10 : decode cX8_image 10 = .ok (.iconst 1, 1) := by decide +kernel
theorem dX8_image_11 : decode cX8_image 11 = .ok (.putfield 223, 3) := by decide +kernel
theorem dX8_image_14 : decode cX8_image 14 = .ok (.aload_n 0, 1) := by decide +kernel
theorem dX8_image_15 : decode cX8_image 15 = .ok (.iconst 1, 1) := by decide +kernel
theorem dX8_image_16 : decode cX8_image 16 = .ok (.invokevirtual 117, 3) := by decide +kernel
theorem dX8_image_19 : decode cX8_image 19 = .ok (.ireturn, 1) := by decide +kernel
theorem dX8_restore_0 : decode cX8_restore 0 = .ok (.aload_n 0, 1) := by decide +kernel
theorem dX8_restore_1 : decode cX8_restore 1 = .ok (.getfield 227, 3) := by decide +kernel
theorem dX8_restore_4 : decode cX8_restore 4 = .ok (.bipush 10, 2) := by decide +kernel
theorem dX8_restore_6 : decode cX8_restore 6 = .ok (.if_icmp .ne 9, 3) := by decide +kernel
theorem dX8_restore_9 : decode cX8_restore 9 = .ok (.aload_n 0, 1) := by decide +kernel
theorem dX8_restore_10 : decode cX8_restore 10 = .ok (.iconst 2, 1) := by decide +kernel
theorem dX8_restore_11 : decode cX8_restore 11 = .ok (.invokevirtual 113, 3) := by decide +kernel
theorem dX8_restore_14 : decode cX8_restore 14 = .ok (.ireturn, 1) := by decide +kernel
theorem dX8_restore_15 : decode cX8_restore 15 = .ok (.aload_n 0, 1) := by decide +kernel
theorem dX8_restore_16 : decode cX8_restore 16 = .ok (.getfield 223, 3) := by decide +kernel
theorem dX8_restore_19 : decode cX8_restore 19 = .ok (.ifCond .ne 9, 3) := by decide +kernel
theorem dX8_restore_22 : decode cX8_restore 22 = .ok (.aload_n 0, 1) := by decide +kernel
theorem dX8_restore_23 : decode cX8_restore 23 = .ok (.iconst 3, 1) := by decide +kernel
theorem dX8_restore_24 : decode cX8_restore 24 = .ok (.invokevirtual 113, 3) := by decide +kernel
theorem dX8_restore_27 : decode cX8_restore 27 = .ok (.ireturn, 1) := by decide +kernel
theorem dX8_restore_28 : decode cX8_restore 28 = .ok (.aload_n 0, 1) := by decide +kernel
theorem dX8_restore_29 : decode cX8_restore 29 = .ok (.dup, 1) := by decide +kernel
theorem dX8_restore_30 : decode cX8_restore 30 = .ok (.getfield 227, 3) := by decide +kernel
theorem dX8_restore_33 : decode cX8_restore 33 = .ok (.iconst 1, 1) := by decide +kernel
theorem dX8_restore_34 : decode cX8_restore 34 = .ok (.iadd, 1) := by decide +kernel
theorem dX8_restore_35 : decode cX8_restore 35 = .ok (.putfield 227, 3) := by decide +kernel
theorem dX8_restore_38 : decode cX8_restore 38 = .ok (.aload_n 0, 1) := by decide +kernel
theorem dX8_restore_39 : decode cX8_restore 39 = .ok (.aload_n 0, 1) := by decide +kernel
theorem dX8_restore_40 : decode cX8_restore 40 = .ok (.getfield 73, 3) := by decide +kernel
theorem dX8_restore_43 : decode cX8_restore 43 = .ok (.iconst 0, 1) := by decide +kernel
theorem dX8_restore_44 : decode cX8_restore 44 = .ok (.invokevirtual 219, 3) := by decide +kernel
theorem dX8_restore_47 : decode cX8_restore 47 = .ok (.aload_n 0, 1) := by decide +kernel
theorem dX8_restore_48 : decode cX8_restore 48 = .ok (.aload_n 0, 1) := by decide +kernel
theorem dX8_restore_49 : decode cX8_restore 49 = .ok (.getfield 70, 3) := by decide +kernel
theorem dX8_restore_52 : decode cX8_restore 52 = .ok (.iconst 3, 1) := by decide +kernel
theorem dX8_restore_53 : decode cX8_restore 53 = .ok (.iaload, 1) := by decide +kernel
theorem dX8_restore_54 : decode cX8_restore 54 = .ok (.invokevirtual 117, 3) := by decide +kernel
theorem dX8_restore_57 : decode cX8_restore 57 = .ok (.ireturn, 1) := by decide +kernel
theorem dX8_wishTold_0 : decode cX8_wishTold 0 = .ok (.aload_n 0, 1) := by decide +kernel
theorem dX8_wishTold_1 : decode cX8_wishTold 1 = .ok (.iload_n 1, 1) := by decide +kernel
theorem dX8_wishTold_2 : decode cX8_wishTold 2 = .ok (.invokevirtual 142, 3) := by decide +kernel
theorem dX8_wishTold_5 : decode cX8_wishTold 5 = .ok (.ifCond .ne 5, 3) := by decide +kernel
theorem dX8_wishTold_8 : decode cX8_wishTold 8 = .ok (.iconst (-1), 1) := by decide +kernel
theorem dX8_wishTold_9 : decode cX8_wishTold 9 = .ok (.ireturn, 1) := by decide +kernel
theorem dX8_wishTold_10 : decode cX8_wishTold 10 = .ok (.iload_n 2, 1) := by decide +kernel
theorem dX8_wishTold_11 : decode cX8_wishTold 11 = .ok (.tableswitch 79 0 5 #[37, 44, 51, 58, 65, 72], 37) := by decide +kernel
theorem dX8_wishTold_48 : decode cX8_wishTold 48 = .ok (.aload_n 0, 1) := by decide +kernel
theorem dX8_wishTold_49 : decode cX8_wishTold 49 = .ok (.getfield 7, 3) := by decide +kernel
theorem dX8_wishTold_52 : decode cX8_wishTold 52 = .ok (.iload_n 1, 1) := by decide +kernel
theorem dX8_wishTold_53 : decode cX8_wishTold 53 = .ok (.iaload, 1) := by decide +kernel
theorem dX8_wishTold_54 : decode cX8_wishTold 54 = .ok (.ireturn, 1) := by decide +kernel
theorem dX8_wishTold_55 : decode cX8_wishTold 55 = .ok (.aload_n 0, 1) := by decide +kernel
theorem dX8_wishTold_56 : decode cX8_wishTold 56 = .ok (.getfield 13, 3) := by decide +kernel
theorem dX8_wishTold_59 : decode cX8_wishTold 59 = .ok (.iload_n 1, 1) := by decide +kernel
theorem dX8_wishTold_60 : decode cX8_wishTold 60 = .ok (.iaload, 1) := by decide +kernel
theorem dX8_wishTold_61 : decode cX8_wishTold 61 = .ok (.ireturn, 1) := by decide +kernel
theorem dX8_wishTold_62 : decode cX8_wishTold 62 = .ok (.aload_n 0, 1) := by decide +kernel
theorem dX8_wishTold_63 : decode cX8_wishTold 63 = .ok (.getfield 16, 3) := by decide +kernel
theorem dX8_wishTold_66 : decode cX8_wishTold 66 = .ok (.iload_n 1, 1) := by decide +kernel
theorem dX8_wishTold_67 : decode cX8_wishTold 67 = .ok (.iaload, 1) := by decide +kernel
theorem dX8_wishTold_68 : decode cX8_wishTold 68 = .ok (.ireturn, 1) := by decide +kernel
theorem dX8_wishTold_69 : decode cX8_wishTold 69 = .ok (.aload_n 0, 1) := by decide +kernel
theorem dX8_wishTold_70 : decode cX8_wishTold 70 = .ok (.getfield 19, 3) := by decide +kernel
theorem dX8_wishTold_73 : decode cX8_wishTold 73 = .ok (.iload_n 1, 1) := by decide +kernel
theorem dX8_wishTold_74 : decode cX8_wishTold 74 = .ok (.iaload, 1) := by decide +kernel
theorem dX8_wishTold_75 : decode cX8_wishTold 75 = .ok (.ireturn, 1) := by decide +kernel
theorem dX8_wishTold_76 : decode cX8_wishTold 76 = .ok (.aload_n 0, 1) := by decide +kernel
theorem dX8_wishTold_77 : decode cX8_wishTold 77 = .ok (.getfield 22, 3) := by decide +kernel
theorem dX8_wishTold_80 : decode cX8_wishTold 80 = .ok (.iload_n 1, 1) := by decide +kernel
theorem dX8_wishTold_81 : decode cX8_wishTold 81 = .ok (.iaload, 1) := by decide +kernel
theorem dX8_wishTold_82 : decode cX8_wishTold 82 = .ok (.ireturn, 1) := by decide +kernel
theorem dX8_wishTold_83 : decode cX8_wishTold 83 = .ok (.aload_n 0, 1) := by decide +kernel
theorem dX8_wishTold_84 : decode cX8_wishTold 84 = .ok (.getfield 25, 3) := by decide +kernel
theorem dX8_wishTold_87 : decode cX8_wishTold 87 = .ok (.iload_n 1, 1) := by decide +kernel
theorem dX8_wishTold_88 : decode cX8_wishTold 88 = .ok (.iaload, 1) := by decide +kernel
theorem dX8_wishTold_89 : decode cX8_wishTold 89 = .ok (.ireturn, 1) := by decide +kernel
theorem dX8_wishTold_90 : decode cX8_wishTold 90 = .ok (.iconst (-1), 1) := by decide +kernel
theorem dX8_wishTold_91 : decode cX8_wishTold 91 = .ok (.ireturn, 1) := by decide +kernel
theorem dX8_lineTold_0 : decode cX8_lineTold 0 = .ok (.aload_n 0, 1) := by decide +kernel
theorem dX8_lineTold_1 : decode cX8_lineTold 1 = .ok (.iload_n 1, 1) := by decide +kernel
theorem dX8_lineTold_2 : decode cX8_lineTold 2 = .ok (.invokevirtual 120, 3) := by decide +kernel
theorem dX8_lineTold_5 : decode cX8_lineTold 5 = .ok (.ifCond .eq 7, 3) := by decide +kernel
theorem dX8_lineTold_8 : decode cX8_lineTold 8 = .ok (.iload_n 2, 1) := by decide +kernel
theorem dX8_lineTold_9 : decode cX8_lineTold 9 = .ok (.ifCond .ge 5, 3) := by decide +kernel
theorem dX8_lineTold_12 : decode cX8_lineTold 12 = .ok (.iconst (-1), 1) := by decide +kernel
theorem dX8_lineTold_13 : decode cX8_lineTold 13 = .ok (.ireturn, 1) := by decide +kernel
theorem dX8_lineTold_14 : decode cX8_lineTold 14 = .ok (.aload_n 0, 1) := by decide +kernel
theorem dX8_lineTold_15 : decode cX8_lineTold 15 = .ok (.iload_n 1, 1) := by decide +kernel
theorem dX8_lineTold_16 : decode cX8_lineTold 16 = .ok (.invokevirtual 145, 3) := by decide +kernel
theorem dX8_lineTold_19 : decode cX8_lineTold 19 = .ok (.istore_n 3, 1) := by decide +kernel
theorem dX8_lineTold_20 : decode cX8_lineTold 20 = .ok (.iconst 0, 1) := by decide +kernel
theorem dX8_lineTold_21 : decode cX8_lineTold 21 = .ok (.istore 4, 2) := by decide +kernel
theorem dX8_lineTold_23 : decode cX8_lineTold 23 = .ok (.iload_n 2, 1) := by decide +kernel
theorem dX8_lineTold_24 : decode cX8_lineTold 24 = .ok (.tableswitch 125 0 4 #[36, 38, 44, 51, 75], 36) := by decide +kernel
theorem dX8_lineTold_60 : decode cX8_lineTold 60 = .ok (.iload_n 3, 1) := by decide +kernel
theorem dX8_lineTold_61 : decode cX8_lineTold 61 = .ok (.ireturn, 1) := by decide +kernel
theorem dX8_lineTold_62 : decode cX8_lineTold 62 = .ok (.aload_n 0, 1) := by decide +kernel
theorem dX8_lineTold_63 : decode cX8_lineTold 63 = .ok (.iload_n 1, 1) := by decide +kernel
theorem dX8_lineTold_64 : decode cX8_lineTold 64 = .ok (.invokevirtual 154, 3) := by decide +kernel
theorem dX8_lineTold_67 : decode cX8_lineTold 67 = .ok (.ireturn, 1) := by decide +kernel
theorem dX8_lineTold_68 : decode cX8_lineTold 68 = .ok (.aload_n 0, 1) := by decide +kernel
theorem dX8_lineTold_69 : decode cX8_lineTold 69 = .ok (.getfield 67, 3) := by decide +kernel
theorem dX8_lineTold_72 : decode cX8_lineTold 72 = .ok (.iload_n 1, 1) := by decide +kernel
theorem dX8_lineTold_73 : decode cX8_lineTold 73 = .ok (.iaload, 1) := by decide +kernel
theorem dX8_lineTold_74 : decode cX8_lineTold 74 = .ok (.ireturn, 1) := by decide +kernel
theorem dX8_lineTold_75 : decode cX8_lineTold 75 = .ok (.iload_n 3, 1) := by decide +kernel
theorem dX8_lineTold_76 : decode cX8_lineTold 76 = .ok (.ifCond .lt 21, 3) := by decide +kernel
theorem dX8_lineTold_79 : decode cX8_lineTold 79 = .ok (.aload_n 0, 1) := by decide +kernel
theorem dX8_lineTold_80 : decode cX8_lineTold 80 = .ok (.getfield 46, 3) := by decide +kernel
theorem dX8_lineTold_83 : decode cX8_lineTold 83 = .ok (.iload_n 3, 1) := by decide +kernel
theorem dX8_lineTold_84 : decode cX8_lineTold 84 = .ok (.iaload, 1) := by decide +kernel
theorem dX8_lineTold_85 : decode cX8_lineTold 85 = .ok (.iload_n 1, 1) := by decide +kernel
theorem dX8_lineTold_86 : decode cX8_lineTold 86 = .ok (.ishr, 1) := by decide +kernel
theorem dX8_lineTold_87 : decode cX8_lineTold 87 = .ok (.iconst 1, 1) := by decide +kernel
theorem dX8_lineTold_88 : decode cX8_lineTold 88 = .ok (.iand, 1) := by decide +kernel
theorem dX8_lineTold_89 : decode cX8_lineTold 89 = .ok (.iconst 1, 1) := by decide +kernel
theorem dX8_lineTold_90 : decode cX8_lineTold 90 = .ok (.if_icmp .ne 7, 3) := by decide +kernel
theorem dX8_lineTold_93 : decode cX8_lineTold 93 = .ok (.iconst 1, 1) := by decide +kernel
theorem dX8_lineTold_94 : decode cX8_lineTold 94 = .ok (.goto 4, 3) := by decide +kernel
theorem dX8_lineTold_97 : decode cX8_lineTold 97 = .ok (.iconst 0, 1) := by decide +kernel
theorem dX8_lineTold_98 : decode cX8_lineTold 98 = .ok (.ireturn, 1) := by decide +kernel
theorem dX8_lineTold_99 : decode cX8_lineTold 99 = .ok (.iconst 0, 1) := by decide +kernel
theorem dX8_lineTold_100 : decode cX8_lineTold 100 = .ok (.istore 5, 2) := by decide +kernel
theorem dX8_lineTold_102 : decode cX8_lineTold 102 = .ok (.iload 5, 2) := by decide +kernel
theorem dX8_lineTold_104 : decode cX8_lineTold 104 = .ok (.aload_n 0, 1) := by decide +kernel
theorem dX8_lineTold_105 : decode cX8_lineTold 105 = .ok (.getfield 70, 3) := by decide +kernel
theorem dX8_lineTold_108 : decode cX8_lineTold 108 = .ok (.iconst 1, 1) := by decide +kernel
theorem dX8_lineTold_109 : decode cX8_lineTold 109 = .ok (.iaload, 1) := by decide +kernel
theorem dX8_lineTold_110 : decode cX8_lineTold 110 = .ok (.if_icmp .ge 36, 3) := by decide +kernel
theorem dX8_lineTold_113 : decode cX8_lineTold 113 = .ok (.iload 4, 2) := by decide +kernel
theorem dX8_lineTold_115 : decode cX8_lineTold 115 = .ok (.aload_n 0, 1) := by decide +kernel
theorem dX8_lineTold_116 : decode cX8_lineTold 116 = .ok (.getfield 7, 3) := by decide +kernel
theorem dX8_lineTold_119 : decode cX8_lineTold 119 = .ok (.iload 5, 2) := by decide +kernel
theorem dX8_lineTold_121 : decode cX8_lineTold 121 = .ok (.iaload, 1) := by decide +kernel
theorem dX8_lineTold_122 : decode cX8_lineTold 122 = .ok (.iload_n 1, 1) := by decide +kernel
theorem dX8_lineTold_123 : decode cX8_lineTold 123 = .ok (.if_icmp .ne 13, 3) := by decide +kernel
theorem dX8_lineTold_126 : decode cX8_lineTold 126 = .ok (.aload_n 0, 1) := by decide +kernel
theorem dX8_lineTold_127 : decode cX8_lineTold 127 = .ok (.getfield 25, 3) := by decide +kernel
theorem dX8_lineTold_130 : decode cX8_lineTold 130 = .ok (.iload 5, 2) := by decide +kernel
theorem dX8_lineTold_132 : decode cX8_lineTold 132 = .ok (.iaload, 1) := by decide +kernel
theorem dX8_lineTold_133 : decode cX8_lineTold 133 = .ok (.goto 4, 3) := by decide +kernel
theorem dX8_lineTold_136 : decode cX8_lineTold 136 = .ok (.iconst 0, 1) := by decide +kernel
theorem dX8_lineTold_137 : decode cX8_lineTold 137 = .ok (.iadd, 1) := by decide +kernel
theorem dX8_lineTold_138 : decode cX8_lineTold 138 = .ok (.istore 4, 2) := by decide +kernel
theorem dX8_lineTold_140 : decode cX8_lineTold 140 = .ok (.iinc 5 1, 3) := by decide +kernel
theorem dX8_lineTold_143 : decode cX8_lineTold 143 = .ok (.goto (-41), 3) := by decide +kernel
theorem dX8_lineTold_146 : decode cX8_lineTold 146 = .ok (.iload 4, 2) := by decide +kernel
theorem dX8_lineTold_148 : decode cX8_lineTold 148 = .ok (.ireturn, 1) := by decide +kernel
theorem dX8_lineTold_149 : decode cX8_lineTold 149 = .ok (.aload_n 0, 1) := by decide +kernel
theorem dX8_lineTold_150 : decode cX8_lineTold 150 = .ok (.iload_n 1, 1) := by decide +kernel
theorem dX8_lineTold_151 : decode cX8_lineTold 151 = .ok (.iconst (-1), 1) := by decide +kernel
theorem dX8_lineTold_152 : decode cX8_lineTold 152 = .ok (.invokevirtual 157, 3) := by decide +kernel
theorem dX8_lineTold_155 : decode cX8_lineTold 155 = .ok (.istore 5, 2) := by decide +kernel
theorem dX8_lineTold_157 : decode cX8_lineTold 157 = .ok (.iconst 5, 1) := by decide +kernel
theorem dX8_lineTold_158 : decode cX8_lineTold 158 = .ok (.istore 6, 2) := by decide +kernel
theorem dX8_lineTold_160 : decode cX8_lineTold 160 = .ok (.iload 6, 2) := by decide +kernel
theorem dX8_lineTold_162 : decode cX8_lineTold 162 = .ok (.iload_n 2, 1) := by decide +kernel
theorem dX8_lineTold_163 : decode cX8_lineTold 163 = .ok (.if_icmp .ge 23, 3) := by decide +kernel
theorem dX8_lineTold_166 : decode cX8_lineTold 166 = .ok (.iload 5, 2) := by decide +kernel
theorem dX8_lineTold_168 : decode cX8_lineTold 168 = .ok (.ifCond .lt 18, 3) := by decide +kernel
theorem dX8_lineTold_171 : decode cX8_lineTold 171 = .ok (.aload_n 0, 1) := by decide +kernel
theorem dX8_lineTold_172 : decode cX8_lineTold 172 = .ok (.iload_n 1, 1) := by decide +kernel
theorem dX8_lineTold_173 : decode cX8_lineTold 173 = .ok (.iload 5, 2) := by decide +kernel
theorem dX8_lineTold_175 : decode cX8_lineTold 175 = .ok (.invokevirtual 157, 3) := by decide +kernel
theorem dX8_lineTold_178 : decode cX8_lineTold 178 = .ok (.istore 5, 2) := by decide +kernel
theorem dX8_lineTold_180 : decode cX8_lineTold 180 = .ok (.iinc 6 1, 3) := by decide +kernel
theorem dX8_lineTold_183 : decode cX8_lineTold 183 = .ok (.goto (-23), 3) := by decide +kernel
theorem dX8_lineTold_186 : decode cX8_lineTold 186 = .ok (.iload 5, 2) := by decide +kernel
theorem dX8_lineTold_188 : decode cX8_lineTold 188 = .ok (.ireturn, 1) := by decide +kernel
theorem dX8_call_0 : decode cX8_call 0 = .ok (.aload_n 0, 1) := by decide +kernel
theorem dX8_call_1 : decode cX8_call 1 = .ok (.iload_n 1, 1) := by decide +kernel
theorem dX8_call_2 : decode cX8_call 2 = .ok (.invokevirtual 230, 3) := by decide +kernel
theorem dX8_call_5 : decode cX8_call 5 = .ok (.ifCond .ne 5, 3) := by decide +kernel
theorem dX8_call_8 : decode cX8_call 8 = .ok (.iconst (-1), 1) := by decide +kernel
theorem dX8_call_9 : decode cX8_call 9 = .ok (.ireturn, 1) := by decide +kernel
theorem dX8_call_10 : decode cX8_call 10 = .ok (.iload_n 2, 1) := by decide +kernel
theorem dX8_call_11 : decode cX8_call 11 = .ok (.tableswitch 101 0 7 #[45, 52, 59, 66, 73, 80, 87, 94], 45) := by decide +kernel
theorem dX8_call_56 : decode cX8_call 56 = .ok (.aload_n 0, 1) := by decide +kernel
theorem dX8_call_57 : decode cX8_call 57 = .ok (.getfield 28, 3) := by decide +kernel
theorem dX8_call_60 : decode cX8_call 60 = .ok (.iload_n 1, 1) := by decide +kernel
theorem dX8_call_61 : decode cX8_call 61 = .ok (.iaload, 1) := by decide +kernel
theorem dX8_call_62 : decode cX8_call 62 = .ok (.ireturn, 1) := by decide +kernel
theorem dX8_call_63 : decode cX8_call 63 = .ok (.aload_n 0, 1) := by decide +kernel
theorem dX8_call_64 : decode cX8_call 64 = .ok (.getfield 31, 3) := by decide +kernel
theorem dX8_call_67 : decode cX8_call 67 = .ok (.iload_n 1, 1) := by decide +kernel
theorem dX8_call_68 : decode cX8_call 68 = .ok (.iaload, 1) := by decide +kernel
theorem dX8_call_69 : decode cX8_call 69 = .ok (.ireturn, 1) := by decide +kernel
theorem dX8_call_70 : decode cX8_call 70 = .ok (.aload_n 0, 1) := by decide +kernel
theorem dX8_call_71 : decode cX8_call 71 = .ok (.getfield 34, 3) := by decide +kernel
theorem dX8_call_74 : decode cX8_call 74 = .ok (.iload_n 1, 1) := by decide +kernel
theorem dX8_call_75 : decode cX8_call 75 = .ok (.iaload, 1) := by decide +kernel
theorem dX8_call_76 : decode cX8_call 76 = .ok (.ireturn, 1) := by decide +kernel
theorem dX8_call_77 : decode cX8_call 77 = .ok (.aload_n 0, 1) := by decide +kernel
theorem dX8_call_78 : decode cX8_call 78 = .ok (.getfield 37, 3) := by decide +kernel
theorem dX8_call_81 : decode cX8_call 81 = .ok (.iload_n 1, 1) := by decide +kernel
theorem dX8_call_82 : decode cX8_call 82 = .ok (.iaload, 1) := by decide +kernel
theorem dX8_call_83 : decode cX8_call 83 = .ok (.ireturn, 1) := by decide +kernel
theorem dX8_call_84 : decode cX8_call 84 = .ok (.aload_n 0, 1) := by decide +kernel
theorem dX8_call_85 : decode cX8_call 85 = .ok (.getfield 46, 3) := by decide +kernel
theorem dX8_call_88 : decode cX8_call 88 = .ok (.iload_n 1, 1) := by decide +kernel
theorem dX8_call_89 : decode cX8_call 89 = .ok (.iaload, 1) := by decide +kernel
theorem dX8_call_90 : decode cX8_call 90 = .ok (.ireturn, 1) := by decide +kernel
theorem dX8_call_91 : decode cX8_call 91 = .ok (.aload_n 0, 1) := by decide +kernel
theorem dX8_call_92 : decode cX8_call 92 = .ok (.getfield 49, 3) := by decide +kernel
theorem dX8_call_95 : decode cX8_call 95 = .ok (.iload_n 1, 1) := by decide +kernel
theorem dX8_call_96 : decode cX8_call 96 = .ok (.iaload, 1) := by decide +kernel
theorem dX8_call_97 : decode cX8_call 97 = .ok (.ireturn, 1) := by decide +kernel
theorem dX8_call_98 : decode cX8_call 98 = .ok (.aload_n 0, 1) := by decide +kernel
theorem dX8_call_99 : decode cX8_call 99 = .ok (.getfield 52, 3) := by decide +kernel
theorem dX8_call_102 : decode cX8_call 102 = .ok (.iload_n 1, 1) := by decide +kernel
theorem dX8_call_103 : decode cX8_call 103 = .ok (.iaload, 1) := by decide +kernel
theorem dX8_call_104 : decode cX8_call 104 = .ok (.ireturn, 1) := by decide +kernel
theorem dX8_call_105 : decode cX8_call 105 = .ok (.aload_n 0, 1) := by decide +kernel
theorem dX8_call_106 : decode cX8_call 106 = .ok (.getfield 55, 3) := by decide +kernel
theorem dX8_call_109 : decode cX8_call 109 = .ok (.iload_n 1, 1) := by decide +kernel
theorem dX8_call_110 : decode cX8_call 110 = .ok (.iaload, 1) := by decide +kernel
theorem dX8_call_111 : decode cX8_call 111 = .ok (.ireturn, 1) := by decide +kernel
theorem dX8_call_112 : decode cX8_call 112 = .ok (.iconst (-1), 1) := by decide +kernel
theorem dX8_call_113 : decode cX8_call 113 = .ok (.ireturn, 1) := by decide +kernel
theorem dX8_row_0 : decode cX8_row 0 = .ok (.aload_n 0, 1) := by decide +kernel
theorem dX8_row_1 : decode cX8_row 1 = .ok (.iload_n 1, 1) := by decide +kernel
theorem dX8_row_2 : decode cX8_row 2 = .ok (.invokevirtual 230, 3) := by decide +kernel
theorem dX8_row_5 : decode cX8_row 5 = .ok (.ifCond .eq 35, 3) := by decide +kernel
theorem dX8_row_8 : decode cX8_row 8 = .ok (.iload_n 2, 1) := by decide +kernel
theorem dX8_row_9 : decode cX8_row 9 = .ok (.i2l, 1) := by decide +kernel
theorem dX8_row_10 : decode cX8_row 10 = .ok (.lconst 0, 1) := by decide +kernel
theorem dX8_row_11 : decode cX8_row 11 = .ok (.aload_n 0, 1) := by decide +kernel
theorem dX8_row_12 : decode cX8_row 12 = .ok (.getfield 37, 3) := by decide +kernel
theorem dX8_row_15 : decode cX8_row 15 = .ok (.iload_n 1, 1) := by decide +kernel
theorem dX8_row_16 : decode cX8_row 16 = .ok (.iaload, 1) := by decide +kernel
theorem dX8_row_17 : decode cX8_row 17 = .ok (.iconst 1, 1) := by decide +kernel
theorem dX8_row_18 : decode cX8_row 18 = .ok (.isub, 1) := by decide +kernel
theorem dX8_row_19 : decode cX8_row 19 = .ok (.i2l, 1) := by decide +kernel
theorem dX8_row_20 : decode cX8_row 20 = .ok (.invokestatic 126, 3) := by decide +kernel
theorem dX8_row_23 : decode cX8_row 23 = .ok (.ifCond .eq 17, 3) := by decide +kernel
theorem dX8_row_26 : decode cX8_row 26 = .ok (.aload_n 0, 1) := by decide +kernel
theorem dX8_row_27 : decode cX8_row 27 = .ok (.getfield 40, 3) := by decide +kernel
theorem dX8_row_30 : decode cX8_row 30 = .ok (.bipush 9, 2) := by decide +kernel
theorem dX8_row_32 : decode cX8_row 32 = .ok (.iload_n 1, 1) := by decide +kernel
theorem dX8_row_33 : decode cX8_row 33 = .ok (.imul, 1) := by decide +kernel
theorem dX8_row_34 : decode cX8_row 34 = .ok (.iload_n 2, 1) := by decide +kernel
theorem dX8_row_35 : decode cX8_row 35 = .ok (.iadd, 1) := by decide +kernel
theorem dX8_row_36 : decode cX8_row 36 = .ok (.iaload, 1) := by decide +kernel
theorem dX8_row_37 : decode cX8_row 37 = .ok (.goto 4, 3) := by decide +kernel
theorem dX8_row_40 : decode cX8_row 40 = .ok (.iconst (-1), 1) := by decide +kernel
theorem dX8_row_41 : decode cX8_row 41 = .ok (.ireturn, 1) := by decide +kernel
theorem dX8_piece_0 : decode cX8_piece 0 = .ok (.aload_n 0, 1) := by decide +kernel
theorem dX8_piece_1 : decode cX8_piece 1 = .ok (.iload_n 1, 1) := by decide +kernel
theorem dX8_piece_2 : decode cX8_piece 2 = .ok (.invokevirtual 230, 3) := by decide +kernel
theorem dX8_piece_5 : decode cX8_piece 5 = .ok (.ifCond .eq 35, 3) := by decide +kernel
theorem dX8_piece_8 : decode cX8_piece 8 = .ok (.iload_n 2, 1) := by decide +kernel
theorem dX8_piece_9 : decode cX8_piece 9 = .ok (.i2l, 1) := by decide +kernel
theorem dX8_piece_10 : decode cX8_piece 10 = .ok (.lconst 0, 1) := by decide +kernel
theorem dX8_piece_11 : decode cX8_piece 11 = .ok (.aload_n 0, 1) := by decide +kernel
theorem dX8_piece_12 : decode cX8_piece 12 = .ok (.getfield 37, 3) := by decide +kernel
theorem dX8_piece_15 : decode cX8_piece 15 = .ok (.iload_n 1, 1) := by decide +kernel
theorem dX8_piece_16 : decode cX8_piece 16 = .ok (.iaload, 1) := by decide +kernel
theorem dX8_piece_17 : decode cX8_piece 17 = .ok (.iconst 1, 1) := by decide +kernel
theorem dX8_piece_18 : decode cX8_piece 18 = .ok (.isub, 1) := by decide +kernel
theorem dX8_piece_19 : decode cX8_piece 19 = .ok (.i2l, 1) := by decide +kernel
theorem dX8_piece_20 : decode cX8_piece 20 = .ok (.invokestatic 126, 3) := by decide +kernel
theorem dX8_piece_23 : decode cX8_piece 23 = .ok (.ifCond .eq 17, 3) := by decide +kernel
theorem dX8_piece_26 : decode cX8_piece 26 = .ok (.aload_n 0, 1) := by decide +kernel
theorem dX8_piece_27 : decode cX8_piece 27 = .ok (.getfield 43, 3) := by decide +kernel
theorem dX8_piece_30 : decode cX8_piece 30 = .ok (.bipush 9, 2) := by decide +kernel
theorem dX8_piece_32 : decode cX8_piece 32 = .ok (.iload_n 1, 1) := by decide +kernel
theorem dX8_piece_33 : decode cX8_piece 33 = .ok (.imul, 1) := by decide +kernel
theorem dX8_piece_34 : decode cX8_piece 34 = .ok (.iload_n 2, 1) := by decide +kernel
theorem dX8_piece_35 : decode cX8_piece 35 = .ok (.iadd, 1) := by decide +kernel
theorem dX8_piece_36 : decode cX8_piece 36 = .ok (.iaload, 1) := by decide +kernel
theorem dX8_piece_37 : decode cX8_piece 37 = .ok (.goto 4, 3) := by decide +kernel
theorem dX8_piece_40 : decode cX8_piece 40 = .ok (.iconst (-1), 1) := by decide +kernel
theorem dX8_piece_41 : decode cX8_piece 41 = .ok (.ireturn, 1) := by decide +kernel
theorem dX8_acted_0 : decode cX8_acted 0 = .ok (.aload_n 0, 1) := by decide +kernel
theorem dX8_acted_1 : decode cX8_acted 1 = .ok (.iload_n 1, 1) := by decide +kernel
theorem dX8_acted_2 : decode cX8_acted 2 = .ok (.invokevirtual 230, 3) := by decide +kernel
theorem dX8_acted_5 : decode cX8_acted 5 = .ok (.ifCond .eq 51, 3) := by decide +kernel
theorem dX8_acted_8 : decode cX8_acted 8 = .ok (.iload_n 2, 1) := by decide +kernel
theorem dX8_acted_9 : decode cX8_acted 9 = .ok (.i2l, 1) := by decide +kernel
theorem dX8_acted_10 : decode cX8_acted 10 = .ok (.lconst 0, 1) := by decide +kernel
theorem dX8_acted_11 : decode cX8_acted 11 = .ok (.aload_n 0, 1) := by decide +kernel
theorem dX8_acted_12 : decode cX8_acted 12 = .ok (.getfield 55, 3) := by decide +kernel
theorem dX8_acted_15 : decode cX8_acted 15 = .ok (.iload_n 1, 1) := by decide +kernel
theorem dX8_acted_16 : decode cX8_acted 16 = .ok (.iaload, 1) := by decide +kernel
theorem dX8_acted_17 : decode cX8_acted 17 = .ok (.bipush 10, 2) := by decide +kernel
theorem dX8_acted_19 : decode cX8_acted 19 = .ok (.if_icmp .ge 12, 3) := by decide +kernel
theorem dX8_acted_22 : decode cX8_acted 22 = .ok (.aload_n 0, 1) := by decide +kernel
theorem dX8_acted_23 : decode cX8_acted 23 = .ok (.getfield 55, 3) := by decide +kernel
theorem dX8_acted_26 : decode cX8_acted 26 = .ok (.iload_n 1, 1) := by decide +kernel
theorem dX8_acted_27 : decode cX8_acted 27 = .ok (.iaload, 1) := by decide +kernel
theorem dX8_acted_28 : decode cX8_acted 28 = .ok (.goto 5, 3) := by decide +kernel
theorem dX8_acted_31 : decode cX8_acted 31 = .ok (.bipush 10, 2) := by decide +kernel
theorem dX8_acted_33 : decode cX8_acted 33 = .ok (.iconst 1, 1) := by decide +kernel
theorem dX8_acted_34 : decode cX8_acted 34 = .ok (.isub, 1) := by decide +kernel
theorem dX8_acted_35 : decode cX8_acted 35 = .ok (.i2l, 1) := by decide +kernel
theorem dX8_acted_36 : decode cX8_acted 36 = .ok (.invokestatic 126, 3) := by decide +kernel
theorem dX8_acted_39 : decode cX8_acted 39 = .ok (.ifCond .eq 17, 3) := by decide +kernel
theorem dX8_acted_42 : decode cX8_acted 42 = .ok (.aload_n 0, 1) := by decide +kernel
theorem dX8_acted_43 : decode cX8_acted 43 = .ok (.getfield 58, 3) := by decide +kernel
theorem dX8_acted_46 : decode cX8_acted 46 = .ok (.bipush 10, 2) := by decide +kernel
theorem dX8_acted_48 : decode cX8_acted 48 = .ok (.iload_n 1, 1) := by decide +kernel
theorem dX8_acted_49 : decode cX8_acted 49 = .ok (.imul, 1) := by decide +kernel
theorem dX8_acted_50 : decode cX8_acted 50 = .ok (.iload_n 2, 1) := by decide +kernel
theorem dX8_acted_51 : decode cX8_acted 51 = .ok (.iadd, 1) := by decide +kernel
theorem dX8_acted_52 : decode cX8_acted 52 = .ok (.iaload, 1) := by decide +kernel
theorem dX8_acted_53 : decode cX8_acted 53 = .ok (.goto 4, 3) := by decide +kernel
theorem dX8_acted_56 : decode cX8_acted 56 = .ok (.iconst (-1), 1) := by decide +kernel
theorem dX8_acted_57 : decode cX8_acted 57 = .ok (.ireturn, 1) := by decide +kernel
theorem dX8_isTold_0 : decode cX8_isTold 0 = .ok (.aload_n 0, 1) := by decide +kernel
theorem dX8_isTold_1 : decode cX8_isTold 1 = .ok (.getfield 46, 3) := by decide +kernel
theorem dX8_isTold_4 : decode cX8_isTold 4 = .ok (.iload_n 1, 1) := by decide +kernel
theorem dX8_isTold_5 : decode cX8_isTold 5 = .ok (.iaload, 1) := by decide +kernel
theorem dX8_isTold_6 : decode cX8_isTold 6 = .ok (.iload_n 2, 1) := by decide +kernel
theorem dX8_isTold_7 : decode cX8_isTold 7 = .ok (.ishr, 1) := by decide +kernel
theorem dX8_isTold_8 : decode cX8_isTold 8 = .ok (.iconst 1, 1) := by decide +kernel
theorem dX8_isTold_9 : decode cX8_isTold 9 = .ok (.iand, 1) := by decide +kernel
theorem dX8_isTold_10 : decode cX8_isTold 10 = .ok (.iconst 1, 1) := by decide +kernel
theorem dX8_isTold_11 : decode cX8_isTold 11 = .ok (.if_icmp .eq 23, 3) := by decide +kernel
theorem dX8_isTold_14 : decode cX8_isTold 14 = .ok (.aload_n 0, 1) := by decide +kernel
theorem dX8_isTold_15 : decode cX8_isTold 15 = .ok (.getfield 31, 3) := by decide +kernel
theorem dX8_isTold_18 : decode cX8_isTold 18 = .ok (.iload_n 1, 1) := by decide +kernel
theorem dX8_isTold_19 : decode cX8_isTold 19 = .ok (.iaload, 1) := by decide +kernel
theorem dX8_isTold_20 : decode cX8_isTold 20 = .ok (.iconst 2, 1) := by decide +kernel
theorem dX8_isTold_21 : decode cX8_isTold 21 = .ok (.if_icmp .ne 17, 3) := by decide +kernel
theorem dX8_isTold_24 : decode cX8_isTold 24 = .ok (.aload_n 0, 1) := by decide +kernel
theorem dX8_isTold_25 : decode cX8_isTold 25 = .ok (.getfield 49, 3) := by decide +kernel
theorem dX8_isTold_28 : decode cX8_isTold 28 = .ok (.iload_n 1, 1) := by decide +kernel
theorem dX8_isTold_29 : decode cX8_isTold 29 = .ok (.iaload, 1) := by decide +kernel
theorem dX8_isTold_30 : decode cX8_isTold 30 = .ok (.iload_n 2, 1) := by decide +kernel
theorem dX8_isTold_31 : decode cX8_isTold 31 = .ok (.if_icmp .ne 7, 3) := by decide +kernel
theorem dX8_isTold_34 : decode cX8_isTold 34 = .ok (.iconst 1, 1) := by decide +kernel
theorem dX8_isTold_35 : decode cX8_isTold 35 = .ok (.goto 4, 3) := by decide +kernel
theorem dX8_isTold_38 : decode cX8_isTold 38 = .ok (.iconst 0, 1) := by decide +kernel
theorem dX8_isTold_39 : decode cX8_isTold 39 = .ok (.istore_n 3, 1) := by decide +kernel
theorem dX8_isTold_40 : decode cX8_isTold 40 = .ok (.iconst 0, 1) := by decide +kernel
theorem dX8_isTold_41 : decode cX8_isTold 41 = .ok (.istore 4, 2) := by decide +kernel
theorem dX8_isTold_43 : decode cX8_isTold 43 = .ok (.iload 4, 2) := by decide +kernel
theorem dX8_isTold_45 : decode cX8_isTold 45 = .ok (.aload_n 0, 1) := by decide +kernel
theorem dX8_isTold_46 : decode cX8_isTold 46 = .ok (.getfield 70, 3) := by decide +kernel
theorem dX8_isTold_49 : decode cX8_isTold 49 = .ok (.iconst 1, 1) := by decide +kernel
theorem dX8_isTold_50 : decode cX8_isTold 50 = .ok (.iaload, 1) := by decide +kernel
theorem dX8_isTold_51 : decode cX8_isTold 51 = .ok (.if_icmp .ge 68, 3) := by decide +kernel
theorem dX8_isTold_54 : decode cX8_isTold 54 = .ok (.iload_n 3, 1) := by decide +kernel
theorem dX8_isTold_55 : decode cX8_isTold 55 = .ok (.ifCond .eq 56, 3) := by decide +kernel
theorem dX8_isTold_58 : decode cX8_isTold 58 = .ok (.aload_n 0, 1) := by decide +kernel
theorem dX8_isTold_59 : decode cX8_isTold 59 = .ok (.getfield 7, 3) := by decide +kernel
theorem dX8_isTold_62 : decode cX8_isTold 62 = .ok (.iload 4, 2) := by decide +kernel
theorem dX8_isTold_64 : decode cX8_isTold 64 = .ok (.iaload, 1) := by decide +kernel
theorem dX8_isTold_65 : decode cX8_isTold 65 = .ok (.aload_n 0, 1) := by decide +kernel
theorem dX8_isTold_66 : decode cX8_isTold 66 = .ok (.getfield 28, 3) := by decide +kernel
theorem dX8_isTold_69 : decode cX8_isTold 69 = .ok (.iload_n 1, 1) := by decide +kernel
theorem dX8_isTold_70 : decode cX8_isTold 70 = .ok (.iaload, 1) := by decide +kernel
theorem dX8_isTold_71 : decode cX8_isTold 71 = .ok (.if_icmp .ne 36, 3) := by decide +kernel
theorem dX8_isTold_74 : decode cX8_isTold 74 = .ok (.aload_n 0, 1) := by decide +kernel
theorem dX8_isTold_75 : decode cX8_isTold 75 = .ok (.getfield 13, 3) := by decide +kernel
theorem dX8_isTold_78 : decode cX8_isTold 78 = .ok (.iload 4, 2) := by decide +kernel
theorem dX8_isTold_80 : decode cX8_isTold 80 = .ok (.iaload, 1) := by decide +kernel
theorem dX8_isTold_81 : decode cX8_isTold 81 = .ok (.iconst 3, 1) := by decide +kernel
theorem dX8_isTold_82 : decode cX8_isTold 82 = .ok (.if_icmp .ne 25, 3) := by decide +kernel
theorem dX8_isTold_85 : decode cX8_isTold 85 = .ok (.aload_n 0, 1) := by decide +kernel
theorem dX8_isTold_86 : decode cX8_isTold 86 = .ok (.getfield 25, 3) := by decide +kernel
theorem dX8_isTold_89 : decode cX8_isTold 89 = .ok (.iload 4, 2) := by decide +kernel
theorem dX8_isTold_91 : decode cX8_isTold 91 = .ok (.iaload, 1) := by decide +kernel
theorem dX8_isTold_92 : decode cX8_isTold 92 = .ok (.iconst 1, 1) := by decide +kernel
theorem dX8_isTold_93 : decode cX8_isTold 93 = .ok (.if_icmp .ne 14, 3) := by decide +kernel
theorem dX8_isTold_96 : decode cX8_isTold 96 = .ok (.aload_n 0, 1) := by decide +kernel
theorem dX8_isTold_97 : decode cX8_isTold 97 = .ok (.getfield 19, 3) := by decide +kernel
theorem dX8_isTold_100 : decode cX8_isTold 100 = .ok (.iload 4, 2) := by decide +kernel
theorem dX8_isTold_102 : decode cX8_isTold 102 = .ok (.iaload, 1) := by decide +kernel
theorem dX8_isTold_103 : decode cX8_isTold 103 = .ok (.iload_n 2, 1) := by decide +kernel
theorem dX8_isTold_104 : decode cX8_isTold 104 = .ok (.if_icmp .ne 7, 3) := by decide +kernel
theorem dX8_isTold_107 : decode cX8_isTold 107 = .ok (.iconst 1, 1) := by decide +kernel
theorem dX8_isTold_108 : decode cX8_isTold 108 = .ok (.goto 4, 3) := by decide +kernel
theorem dX8_isTold_111 : decode cX8_isTold 111 = .ok (.iconst 0, 1) := by decide +kernel
theorem dX8_isTold_112 : decode cX8_isTold 112 = .ok (.istore_n 3, 1) := by decide +kernel
theorem dX8_isTold_113 : decode cX8_isTold 113 = .ok (.iinc 4 1, 3) := by decide +kernel
theorem dX8_isTold_116 : decode cX8_isTold 116 = .ok (.goto (-73), 3) := by decide +kernel
theorem dX8_isTold_119 : decode cX8_isTold 119 = .ok (.iload_n 3, 1) := by decide +kernel
theorem dX8_isTold_120 : decode cX8_isTold 120 = .ok (.ireturn, 1) := by decide +kernel
theorem dX8_tells_0 : decode cX8_tells 0 = .ok (.aload_n 0, 1) := by decide +kernel
theorem dX8_tells_1 : decode cX8_tells 1 = .ok (.iload_n 1, 1) := by decide +kernel
theorem dX8_tells_2 : decode cX8_tells 2 = .ok (.invokevirtual 230, 3) := by decide +kernel
theorem dX8_tells_5 : decode cX8_tells 5 = .ok (.ifCond .eq 11, 3) := by decide +kernel
theorem dX8_tells_8 : decode cX8_tells 8 = .ok (.aload_n 0, 1) := by decide +kernel
theorem dX8_tells_9 : decode cX8_tells 9 = .ok (.iload_n 2, 1) := by decide +kernel
theorem dX8_tells_10 : decode cX8_tells 10 = .ok (.invokevirtual 120, 3) := by decide +kernel
theorem dX8_tells_13 : decode cX8_tells 13 = .ok (.ifCond .ne 7, 3) := by decide +kernel
theorem dX8_tells_16 : decode cX8_tells 16 = .ok (.iconst (-1), 1) := by decide +kernel
theorem dX8_tells_17 : decode cX8_tells 17 = .ok (.goto 17, 3) := by decide +kernel
theorem dX8_tells_20 : decode cX8_tells 20 = .ok (.aload_n 0, 1) := by decide +kernel
theorem dX8_tells_21 : decode cX8_tells 21 = .ok (.iload_n 1, 1) := by decide +kernel
theorem dX8_tells_22 : decode cX8_tells 22 = .ok (.iload_n 2, 1) := by decide +kernel
theorem dX8_tells_23 : decode cX8_tells 23 = .ok (.invokevirtual 233, 3) := by decide +kernel
theorem dX8_tells_26 : decode cX8_tells 26 = .ok (.ifCond .eq 7, 3) := by decide +kernel
theorem dX8_tells_29 : decode cX8_tells 29 = .ok (.iconst 1, 1) := by decide +kernel
theorem dX8_tells_30 : decode cX8_tells 30 = .ok (.goto 4, 3) := by decide +kernel
theorem dX8_tells_33 : decode cX8_tells 33 = .ok (.iconst 0, 1) := by decide +kernel
theorem dX8_tells_34 : decode cX8_tells 34 = .ok (.ireturn, 1) := by decide +kernel
theorem dX8_backs_0 : decode cX8_backs 0 = .ok (.iload_n 1, 1) := by decide +kernel
theorem dX8_backs_1 : decode cX8_backs 1 = .ok (.i2l, 1) := by decide +kernel
theorem dX8_backs_2 : decode cX8_backs 2 = .ok (.lconst 0, 1) := by decide +kernel
theorem dX8_backs_3 : decode cX8_backs 3 = .ok (.aload_n 0, 1) := by decide +kernel
theorem dX8_backs_4 : decode cX8_backs 4 = .ok (.getfield 70, 3) := by decide +kernel
theorem dX8_backs_7 : decode cX8_backs 7 = .ok (.iconst 4, 1) := by decide +kernel
theorem dX8_backs_8 : decode cX8_backs 8 = .ok (.iaload, 1) := by decide +kernel
theorem dX8_backs_9 : decode cX8_backs 9 = .ok (.iconst 1, 1) := by decide +kernel
theorem dX8_backs_10 : decode cX8_backs 10 = .ok (.isub, 1) := by decide +kernel
theorem dX8_backs_11 : decode cX8_backs 11 = .ok (.i2l, 1) := by decide +kernel
theorem dX8_backs_12 : decode cX8_backs 12 = .ok (.invokestatic 126, 3) := by decide +kernel
theorem dX8_backs_15 : decode cX8_backs 15 = .ok (.ifCond .eq 13, 3) := by decide +kernel
theorem dX8_backs_18 : decode cX8_backs 18 = .ok (.iload_n 2, 1) := by decide +kernel
theorem dX8_backs_19 : decode cX8_backs 19 = .ok (.i2l, 1) := by decide +kernel
theorem dX8_backs_20 : decode cX8_backs 20 = .ok (.lconst 0, 1) := by decide +kernel
theorem dX8_backs_21 : decode cX8_backs 21 = .ok (.lconst 1, 1) := by decide +kernel
theorem dX8_backs_22 : decode cX8_backs 22 = .ok (.invokestatic 126, 3) := by decide +kernel
theorem dX8_backs_25 : decode cX8_backs 25 = .ok (.ifCond .ne 7, 3) := by decide +kernel
theorem dX8_backs_28 : decode cX8_backs 28 = .ok (.iconst (-1), 1) := by decide +kernel
theorem dX8_backs_29 : decode cX8_backs 29 = .ok (.goto 22, 3) := by decide +kernel
theorem dX8_backs_32 : decode cX8_backs 32 = .ok (.iload_n 2, 1) := by decide +kernel
theorem dX8_backs_33 : decode cX8_backs 33 = .ok (.ifCond .ne 12, 3) := by decide +kernel
theorem dX8_backs_36 : decode cX8_backs 36 = .ok (.aload_n 0, 1) := by decide +kernel
theorem dX8_backs_37 : decode cX8_backs 37 = .ok (.getfield 61, 3) := by decide +kernel
theorem dX8_backs_40 : decode cX8_backs 40 = .ok (.iload_n 1, 1) := by decide +kernel
theorem dX8_backs_41 : decode cX8_backs 41 = .ok (.iaload, 1) := by decide +kernel
theorem dX8_backs_42 : decode cX8_backs 42 = .ok (.goto 9, 3) := by decide +kernel
theorem dX8_backs_45 : decode cX8_backs 45 = .ok (.aload_n 0, 1) := by decide +kernel
theorem dX8_backs_46 : decode cX8_backs 46 = .ok (.getfield 64, 3) := by decide +kernel
theorem dX8_backs_49 : decode cX8_backs 49 = .ok (.iload_n 1, 1) := by decide +kernel
theorem dX8_backs_50 : decode cX8_backs 50 = .ok (.iaload, 1) := by decide +kernel
theorem dX8_backs_51 : decode cX8_backs 51 = .ok (.ireturn, 1) := by decide +kernel
theorem dX8_findDeeds_0 : decode cX8_findDeeds 0 = .ok (.aload_n 0, 1) := by decide +kernel
theorem dX8_findDeeds_1 : decode cX8_findDeeds 1 = .ok (.iconst 0, 1) := by decide +kernel
theorem dX8_findDeeds_2 : decode cX8_findDeeds 2 = .ok (.putfield 236, 3) := by decide +kernel
theorem dX8_findDeeds_5 : decode cX8_findDeeds 5 = .ok (.iconst 0, 1) := by decide +kernel
theorem dX8_findDeeds_6 : decode cX8_findDeeds 6 = .ok (.istore_n 2, 1) := by decide +kernel
theorem dX8_findDeeds_7 : decode cX8_findDeeds 7 = .ok (.iload_n 2, 1) := by decide +kernel
theorem dX8_findDeeds_8 : decode cX8_findDeeds 8 = .ok (.bipush 8, 2) := by decide +kernel
theorem dX8_findDeeds_10 : decode cX8_findDeeds 10 = .ok (.if_icmp .ge 76, 3) := by decide +kernel
theorem dX8_findDeeds_13 : decode cX8_findDeeds 13 = .ok (.iconst 0, 1) := by decide +kernel
theorem dX8_findDeeds_14 : decode cX8_findDeeds 14 = .ok (.istore_n 3, 1) := by decide +kernel
theorem dX8_findDeeds_15 : decode cX8_findDeeds 15 = .ok (.iload_n 3, 1) := by decide +kernel
theorem dX8_findDeeds_16 : decode cX8_findDeeds 16 = .ok (.bipush 8, 2) := by decide +kernel
theorem dX8_findDeeds_18 : decode cX8_findDeeds 18 = .ok (.if_icmp .ge 62, 3) := by decide +kernel
theorem dX8_findDeeds_21 : decode cX8_findDeeds 21 = .ok (.iload_n 2, 1) := by decide +kernel
theorem dX8_findDeeds_22 : decode cX8_findDeeds 22 = .ok (.iload_n 3, 1) := by decide +kernel
theorem dX8_findDeeds_23 : decode cX8_findDeeds 23 = .ok (.if_icmp .eq 51, 3) := by decide +kernel
theorem dX8_findDeeds_26 : decode cX8_findDeeds 26 = .ok (.iload_n 1, 1) := by decide +kernel
theorem dX8_findDeeds_27 : decode cX8_findDeeds 27 = .ok (.iload_n 2, 1) := by decide +kernel
theorem dX8_findDeeds_28 : decode cX8_findDeeds 28 = .ok (.ishr, 1) := by decide +kernel
theorem dX8_findDeeds_29 : decode cX8_findDeeds 29 = .ok (.iconst 1, 1) := by decide +kernel
theorem dX8_findDeeds_30 : decode cX8_findDeeds 30 = .ok (.iand, 1) := by decide +kernel
theorem dX8_findDeeds_31 : decode cX8_findDeeds 31 = .ok (.ifCond .eq 43, 3) := by decide +kernel
theorem dX8_findDeeds_34 : decode cX8_findDeeds 34 = .ok (.iload_n 1, 1) := by decide +kernel
theorem dX8_findDeeds_35 : decode cX8_findDeeds 35 = .ok (.iload_n 3, 1) := by decide +kernel
theorem dX8_findDeeds_36 : decode cX8_findDeeds 36 = .ok (.ishr, 1) := by decide +kernel
theorem dX8_findDeeds_37 : decode cX8_findDeeds 37 = .ok (.iconst 1, 1) := by decide +kernel
theorem dX8_findDeeds_38 : decode cX8_findDeeds 38 = .ok (.iand, 1) := by decide +kernel
theorem dX8_findDeeds_39 : decode cX8_findDeeds 39 = .ok (.ifCond .ne 6, 3) := by decide +kernel
theorem dX8_findDeeds_42 : decode cX8_findDeeds 42 = .ok (.goto 32, 3) := by decide +kernel
theorem dX8_findDeeds_45 : decode cX8_findDeeds 45 = .ok (.aload_n 0, 1) := by decide +kernel
theorem dX8_findDeeds_46 : decode cX8_findDeeds 46 = .ok (.getfield 85, 3) := by decide +kernel
theorem dX8_findDeeds_49 : decode cX8_findDeeds 49 = .ok (.aload_n 0, 1) := by decide +kernel
theorem dX8_findDeeds_50 : decode cX8_findDeeds 50 = .ok (.getfield 236, 3) := by decide +kernel
theorem dX8_findDeeds_53 : decode cX8_findDeeds 53 = .ok (.sipush 1000, 3) := by decide +kernel
theorem dX8_findDeeds_56 : decode cX8_findDeeds 56 = .ok (.bipush 10, 2) := by decide +kernel
theorem dX8_findDeeds_58 : decode cX8_findDeeds 58 = .ok (.iload_n 2, 1) := by decide +kernel
theorem dX8_findDeeds_59 : decode cX8_findDeeds 59 = .ok (.imul, 1) := by decide +kernel
theorem dX8_findDeeds_60 : decode cX8_findDeeds 60 = .ok (.iadd, 1) := by decide +kernel
theorem dX8_findDeeds_61 : decode cX8_findDeeds 61 = .ok (.iload_n 3, 1) := by decide +kernel
theorem dX8_findDeeds_62 : decode cX8_findDeeds 62 = .ok (.iadd, 1) := by decide +kernel
theorem dX8_findDeeds_63 : decode cX8_findDeeds 63 = .ok (.iastore, 1) := by decide +kernel
theorem dX8_findDeeds_64 : decode cX8_findDeeds 64 = .ok (.aload_n 0, 1) := by decide +kernel
theorem dX8_findDeeds_65 : decode cX8_findDeeds 65 = .ok (.dup, 1) := by decide +kernel
theorem dX8_findDeeds_66 : decode cX8_findDeeds 66 = .ok (.getfield 236, 3) := by decide +kernel
theorem dX8_findDeeds_69 : decode cX8_findDeeds 69 = .ok (.iconst 1, 1) := by decide +kernel
theorem dX8_findDeeds_70 : decode cX8_findDeeds 70 = .ok (.iadd, 1) := by decide +kernel
theorem dX8_findDeeds_71 : decode cX8_findDeeds 71 = .ok (.putfield 236, 3) := by decide +kernel
theorem dX8_findDeeds_74 : decode cX8_findDeeds 74 = .ok (.iinc 3 1, 3) := by decide +kernel
theorem dX8_findDeeds_77 : decode cX8_findDeeds 77 = .ok (.goto (-62), 3) := by decide +kernel
theorem dX8_findDeeds_80 : decode cX8_findDeeds 80 = .ok (.iinc 2 1, 3) := by decide +kernel
theorem dX8_findDeeds_83 : decode cX8_findDeeds 83 = .ok (.goto (-76), 3) := by decide +kernel
theorem dX8_findDeeds_86 : decode cX8_findDeeds 86 = .ok (.iconst 2, 1) := by decide +kernel
theorem dX8_findDeeds_87 : decode cX8_findDeeds 87 = .ok (.istore_n 2, 1) := by decide +kernel
theorem dX8_findDeeds_88 : decode cX8_findDeeds 88 = .ok (.iload_n 2, 1) := by decide +kernel
theorem dX8_findDeeds_89 : decode cX8_findDeeds 89 = .ok (.iconst 4, 1) := by decide +kernel
theorem dX8_findDeeds_90 : decode cX8_findDeeds 90 = .ok (.if_icmp .ge 63, 3) := by decide +kernel
theorem dX8_findDeeds_93 : decode cX8_findDeeds 93 = .ok (.iconst 0, 1) := by decide +kernel
theorem dX8_findDeeds_94 : decode cX8_findDeeds 94 = .ok (.istore_n 3, 1) := by decide +kernel
theorem dX8_findDeeds_95 : decode cX8_findDeeds 95 = .ok (.iload_n 3, 1) := by decide +kernel
theorem dX8_findDeeds_96 : decode cX8_findDeeds 96 = .ok (.bipush 8, 2) := by decide +kernel
theorem dX8_findDeeds_98 : decode cX8_findDeeds 98 = .ok (.if_icmp .ge 49, 3) := by decide +kernel
theorem dX8_findDeeds_101 : decode cX8_findDeeds 101 = .ok (.iload_n 1, 1) := by decide +kernel
theorem dX8_findDeeds_102 : decode cX8_findDeeds 102 = .ok (.iload_n 3, 1) := by decide +kernel
theorem dX8_findDeeds_103 : decode cX8_findDeeds 103 = .ok (.ishr, 1) := by decide +kernel
theorem dX8_findDeeds_104 : decode cX8_findDeeds 104 = .ok (.iconst 1, 1) := by decide +kernel
theorem dX8_findDeeds_105 : decode cX8_findDeeds 105 = .ok (.iand, 1) := by decide +kernel
theorem dX8_findDeeds_106 : decode cX8_findDeeds 106 = .ok (.ifCond .ne 6, 3) := by decide +kernel
theorem dX8_findDeeds_109 : decode cX8_findDeeds 109 = .ok (.goto 32, 3) := by decide +kernel
theorem dX8_findDeeds_112 : decode cX8_findDeeds 112 = .ok (.aload_n 0, 1) := by decide +kernel
theorem dX8_findDeeds_113 : decode cX8_findDeeds 113 = .ok (.getfield 85, 3) := by decide +kernel
theorem dX8_findDeeds_116 : decode cX8_findDeeds 116 = .ok (.aload_n 0, 1) := by decide +kernel
theorem dX8_findDeeds_117 : decode cX8_findDeeds 117 = .ok (.getfield 236, 3) := by decide +kernel
theorem dX8_findDeeds_120 : decode cX8_findDeeds 120 = .ok (.sipush 1000, 3) := by decide +kernel
theorem dX8_findDeeds_123 : decode cX8_findDeeds 123 = .ok (.iload_n 2, 1) := by decide +kernel
theorem dX8_findDeeds_124 : decode cX8_findDeeds 124 = .ok (.imul, 1) := by decide +kernel
theorem dX8_findDeeds_125 : decode cX8_findDeeds 125 = .ok (.bipush 10, 2) := by decide +kernel
theorem dX8_findDeeds_127 : decode cX8_findDeeds 127 = .ok (.iload_n 3, 1) := by decide +kernel
theorem dX8_findDeeds_128 : decode cX8_findDeeds 128 = .ok (.imul, 1) := by decide +kernel
theorem dX8_findDeeds_129 : decode cX8_findDeeds 129 = .ok (.iadd, 1) := by decide +kernel
theorem dX8_findDeeds_130 : decode cX8_findDeeds 130 = .ok (.iastore, 1) := by decide +kernel
theorem dX8_findDeeds_131 : decode cX8_findDeeds 131 = .ok (.aload_n 0, 1) := by decide +kernel
theorem dX8_findDeeds_132 : decode cX8_findDeeds 132 = .ok (.dup, 1) := by decide +kernel
theorem dX8_findDeeds_133 : decode cX8_findDeeds 133 = .ok (.getfield 236, 3) := by decide +kernel
theorem dX8_findDeeds_136 : decode cX8_findDeeds 136 = .ok (.iconst 1, 1) := by decide +kernel
theorem dX8_findDeeds_137 : decode cX8_findDeeds 137 = .ok (.iadd, 1) := by decide +kernel
theorem dX8_findDeeds_138 : decode cX8_findDeeds 138 = .ok (.putfield 236, 3) := by decide +kernel
theorem dX8_findDeeds_141 : decode cX8_findDeeds 141 = .ok (.iinc 3 1, 3) := by decide +kernel
theorem dX8_findDeeds_144 : decode cX8_findDeeds 144 = .ok (.goto (-49), 3) := by decide +kernel
theorem dX8_findDeeds_147 : decode cX8_findDeeds 147 = .ok (.iinc 2 1, 3) := by decide +kernel
theorem dX8_findDeeds_150 : decode cX8_findDeeds 150 = .ok (.goto (-62), 3) := by decide +kernel
theorem dX8_findDeeds_153 : decode cX8_findDeeds 153 = .ok (.aload_n 0, 1) := by decide +kernel
theorem dX8_findDeeds_154 : decode cX8_findDeeds 154 = .ok (.getfield 85, 3) := by decide +kernel
theorem dX8_findDeeds_157 : decode cX8_findDeeds 157 = .ok (.aload_n 0, 1) := by decide +kernel
theorem dX8_findDeeds_158 : decode cX8_findDeeds 158 = .ok (.getfield 236, 3) := by decide +kernel
theorem dX8_findDeeds_161 : decode cX8_findDeeds 161 = .ok (.sipush 4000, 3) := by decide +kernel
theorem dX8_findDeeds_164 : decode cX8_findDeeds 164 = .ok (.iastore, 1) := by decide +kernel
theorem dX8_findDeeds_165 : decode cX8_findDeeds 165 = .ok (.aload_n 0, 1) := by decide +kernel
theorem dX8_findDeeds_166 : decode cX8_findDeeds 166 = .ok (.dup, 1) := by decide +kernel
theorem dX8_findDeeds_167 : decode cX8_findDeeds 167 = .ok (.getfield 236, 3) := by decide +kernel
theorem dX8_findDeeds_170 : decode cX8_findDeeds 170 = .ok (.iconst 1, 1) := by decide +kernel
theorem dX8_findDeeds_171 : decode cX8_findDeeds 171 = .ok (.iadd, 1) := by decide +kernel
theorem dX8_findDeeds_172 : decode cX8_findDeeds 172 = .ok (.putfield 236, 3) := by decide +kernel
theorem dX8_findDeeds_175 : decode cX8_findDeeds 175 = .ok (.return_, 1) := by decide +kernel
theorem dX8_isDone_0 : decode cX8_isDone 0 = .ok (.iload_n 1, 1) := by decide +kernel
theorem dX8_isDone_1 : decode cX8_isDone 1 = .ok (.sipush 1000, 3) := by decide +kernel
theorem dX8_isDone_4 : decode cX8_isDone 4 = .ok (.irem, 1) := by decide +kernel
theorem dX8_isDone_5 : decode cX8_isDone 5 = .ok (.bipush 10, 2) := by decide +kernel
theorem dX8_isDone_7 : decode cX8_isDone 7 = .ok (.idiv, 1) := by decide +kernel
theorem dX8_isDone_8 : decode cX8_isDone 8 = .ok (.istore_n 2, 1) := by decide +kernel
theorem dX8_isDone_9 : decode cX8_isDone 9 = .ok (.iload_n 1, 1) := by decide +kernel
theorem dX8_isDone_10 : decode cX8_isDone 10 = .ok (.sipush 1000, 3) := by decide +kernel
theorem dX8_isDone_13 : decode cX8_isDone 13 = .ok (.idiv, 1) := by decide +kernel
theorem dX8_isDone_14 : decode cX8_isDone 14 = .ok (.tableswitch 72 1 3 #[26, 44, 58], 26) := by decide +kernel
theorem dX8_isDone_40 : decode cX8_isDone 40 = .ok (.aload_n 0, 1) := by decide +kernel
theorem dX8_isDone_41 : decode cX8_isDone 41 = .ok (.iload_n 2, 1) := by decide +kernel
theorem dX8_isDone_42 : decode cX8_isDone 42 = .ok (.iload_n 1, 1) := by decide +kernel
theorem dX8_isDone_43 : decode cX8_isDone 43 = .ok (.bipush 10, 2) := by decide +kernel
theorem dX8_isDone_45 : decode cX8_isDone 45 = .ok (.irem, 1) := by decide +kernel
theorem dX8_isDone_46 : decode cX8_isDone 46 = .ok (.invokevirtual 239, 3) := by decide +kernel
theorem dX8_isDone_49 : decode cX8_isDone 49 = .ok (.ifCond .lt 7, 3) := by decide +kernel
theorem dX8_isDone_52 : decode cX8_isDone 52 = .ok (.iconst 1, 1) := by decide +kernel
theorem dX8_isDone_53 : decode cX8_isDone 53 = .ok (.goto 4, 3) := by decide +kernel
theorem dX8_isDone_56 : decode cX8_isDone 56 = .ok (.iconst 0, 1) := by decide +kernel
theorem dX8_isDone_57 : decode cX8_isDone 57 = .ok (.ireturn, 1) := by decide +kernel
theorem dX8_isDone_58 : decode cX8_isDone 58 = .ok (.aload_n 0, 1) := by decide +kernel
theorem dX8_isDone_59 : decode cX8_isDone 59 = .ok (.iload_n 2, 1) := by decide +kernel
theorem dX8_isDone_60 : decode cX8_isDone 60 = .ok (.invokevirtual 242, 3) := by decide +kernel
theorem dX8_isDone_63 : decode cX8_isDone 63 = .ok (.ifCond .lt 7, 3) := by decide +kernel
theorem dX8_isDone_66 : decode cX8_isDone 66 = .ok (.iconst 1, 1) := by decide +kernel
theorem dX8_isDone_67 : decode cX8_isDone 67 = .ok (.goto 4, 3) := by decide +kernel
theorem dX8_isDone_70 : decode cX8_isDone 70 = .ok (.iconst 0, 1) := by decide +kernel
theorem dX8_isDone_71 : decode cX8_isDone 71 = .ok (.ireturn, 1) := by decide +kernel
theorem dX8_isDone_72 : decode cX8_isDone 72 = .ok (.aload_n 0, 1) := by decide +kernel
theorem dX8_isDone_73 : decode cX8_isDone 73 = .ok (.iload_n 2, 1) := by decide +kernel
theorem dX8_isDone_74 : decode cX8_isDone 74 = .ok (.invokevirtual 245, 3) := by decide +kernel
theorem dX8_isDone_77 : decode cX8_isDone 77 = .ok (.ifCond .lt 7, 3) := by decide +kernel
theorem dX8_isDone_80 : decode cX8_isDone 80 = .ok (.iconst 1, 1) := by decide +kernel
theorem dX8_isDone_81 : decode cX8_isDone 81 = .ok (.goto 4, 3) := by decide +kernel
theorem dX8_isDone_84 : decode cX8_isDone 84 = .ok (.iconst 0, 1) := by decide +kernel
theorem dX8_isDone_85 : decode cX8_isDone 85 = .ok (.ireturn, 1) := by decide +kernel
theorem dX8_isDone_86 : decode cX8_isDone 86 = .ok (.aload_n 0, 1) := by decide +kernel
theorem dX8_isDone_87 : decode cX8_isDone 87 = .ok (.invokevirtual 248, 3) := by decide +kernel
theorem dX8_isDone_90 : decode cX8_isDone 90 = .ok (.ifCond .lt 7, 3) := by decide +kernel
theorem dX8_isDone_93 : decode cX8_isDone 93 = .ok (.iconst 1, 1) := by decide +kernel
theorem dX8_isDone_94 : decode cX8_isDone 94 = .ok (.goto 4, 3) := by decide +kernel
theorem dX8_isDone_97 : decode cX8_isDone 97 = .ok (.iconst 0, 1) := by decide +kernel
theorem dX8_isDone_98 : decode cX8_isDone 98 = .ok (.ireturn, 1) := by decide +kernel
theorem dX8_isBroken_0 : decode cX8_isBroken 0 = .ok (.iload_n 1, 1) := by decide +kernel
theorem dX8_isBroken_1 : decode cX8_isBroken 1 = .ok (.iconst 1, 1) := by decide +kernel
theorem dX8_isBroken_2 : decode cX8_isBroken 2 = .ok (.if_icmp .ne 16, 3) := by decide +kernel
theorem dX8_isBroken_5 : decode cX8_isBroken 5 = .ok (.aload_n 0, 1) := by decide +kernel
theorem dX8_isBroken_6 : decode cX8_isBroken 6 = .ok (.getfield 67, 3) := by decide +kernel
theorem dX8_isBroken_9 : decode cX8_isBroken 9 = .ok (.iload_n 2, 1) := by decide +kernel
theorem dX8_isBroken_10 : decode cX8_isBroken 10 = .ok (.iaload, 1) := by decide +kernel
theorem dX8_isBroken_11 : decode cX8_isBroken 11 = .ok (.ifCond .le 7, 3) := by decide +kernel
theorem dX8_isBroken_14 : decode cX8_isBroken 14 = .ok (.iconst 1, 1) := by decide +kernel
theorem dX8_isBroken_15 : decode cX8_isBroken 15 = .ok (.goto 4, 3) := by decide +kernel
theorem dX8_isBroken_18 : decode cX8_isBroken 18 = .ok (.iconst 0, 1) := by decide +kernel
theorem dX8_isBroken_19 : decode cX8_isBroken 19 = .ok (.istore 4, 2) := by decide +kernel
theorem dX8_isBroken_21 : decode cX8_isBroken 21 = .ok (.iconst 0, 1) := by decide +kernel
theorem dX8_isBroken_22 : decode cX8_isBroken 22 = .ok (.istore 5, 2) := by decide +kernel
theorem dX8_isBroken_24 : decode cX8_isBroken 24 = .ok (.iload 5, 2) := by decide +kernel
theorem dX8_isBroken_26 : decode cX8_isBroken 26 = .ok (.aload_n 0, 1) := by decide +kernel
theorem dX8_isBroken_27 : decode cX8_isBroken 27 = .ok (.getfield 70, 3) := by decide +kernel
theorem dX8_isBroken_30 : decode cX8_isBroken 30 = .ok (.iconst 2, 1) := by decide +kernel
theorem dX8_isBroken_31 : decode cX8_isBroken 31 = .ok (.iaload, 1) := by decide +kernel
theorem dX8_isBroken_32 : decode cX8_isBroken 32 = .ok (.if_icmp .ge 118, 3) := by decide +kernel
theorem dX8_isBroken_35 : decode cX8_isBroken 35 = .ok (.aload_n 0, 1) := by decide +kernel
theorem dX8_isBroken_36 : decode cX8_isBroken 36 = .ok (.getfield 31, 3) := by decide +kernel
theorem dX8_isBroken_39 : decode cX8_isBroken 39 = .ok (.iload 5, 2) := by decide +kernel
theorem dX8_isBroken_41 : decode cX8_isBroken 41 = .ok (.iaload, 1) := by decide +kernel
theorem dX8_isBroken_42 : decode cX8_isBroken 42 = .ok (.iconst 1, 1) := by decide +kernel
theorem dX8_isBroken_43 : decode cX8_isBroken 43 = .ok (.if_icmp .ne 51, 3) := by decide +kernel
theorem dX8_isBroken_46 : decode cX8_isBroken 46 = .ok (.aload_n 0, 1) := by decide +kernel
theorem dX8_isBroken_47 : decode cX8_isBroken 47 = .ok (.getfield 28, 3) := by decide +kernel
theorem dX8_isBroken_50 : decode cX8_isBroken 50 = .ok (.iload 5, 2) := by decide +kernel
theorem dX8_isBroken_52 : decode cX8_isBroken 52 = .ok (.iaload, 1) := by decide +kernel
theorem dX8_isBroken_53 : decode cX8_isBroken 53 = .ok (.iload_n 2, 1) := by decide +kernel
theorem dX8_isBroken_54 : decode cX8_isBroken 54 = .ok (.if_icmp .ne 14, 3) := by decide +kernel
theorem dX8_isBroken_57 : decode cX8_isBroken 57 = .ok (.aload_n 0, 1) := by decide +kernel
theorem dX8_isBroken_58 : decode cX8_isBroken 58 = .ok (.getfield 49, 3) := by decide +kernel
theorem dX8_isBroken_61 : decode cX8_isBroken 61 = .ok (.iload 5, 2) := by decide +kernel
theorem dX8_isBroken_63 : decode cX8_isBroken 63 = .ok (.iaload, 1) := by decide +kernel
theorem dX8_isBroken_64 : decode cX8_isBroken 64 = .ok (.iload_n 3, 1) := by decide +kernel
theorem dX8_isBroken_65 : decode cX8_isBroken 65 = .ok (.if_icmp .eq 25, 3) := by decide +kernel
theorem dX8_isBroken_68 : decode cX8_isBroken 68 = .ok (.aload_n 0, 1) := by decide +kernel
theorem dX8_isBroken_69 : decode cX8_isBroken 69 = .ok (.getfield 28, 3) := by decide +kernel
theorem dX8_isBroken_72 : decode cX8_isBroken 72 = .ok (.iload 5, 2) := by decide +kernel
theorem dX8_isBroken_74 : decode cX8_isBroken 74 = .ok (.iaload, 1) := by decide +kernel
theorem dX8_isBroken_75 : decode cX8_isBroken 75 = .ok (.iload_n 3, 1) := by decide +kernel
theorem dX8_isBroken_76 : decode cX8_isBroken 76 = .ok (.if_icmp .ne 18, 3) := by decide +kernel
theorem dX8_isBroken_79 : decode cX8_isBroken 79 = .ok (.aload_n 0, 1) := by decide +kernel
theorem dX8_isBroken_80 : decode cX8_isBroken 80 = .ok (.getfield 49, 3) := by decide +kernel
theorem dX8_isBroken_83 : decode cX8_isBroken 83 = .ok (.iload 5, 2) := by decide +kernel
theorem dX8_isBroken_85 : decode cX8_isBroken 85 = .ok (.iaload, 1) := by decide +kernel
theorem dX8_isBroken_86 : decode cX8_isBroken 86 = .ok (.iload_n 2, 1) := by decide +kernel
theorem dX8_isBroken_87 : decode cX8_isBroken 87 = .ok (.if_icmp .ne 7, 3) := by decide +kernel
theorem dX8_isBroken_90 : decode cX8_isBroken 90 = .ok (.iconst 1, 1) := by decide +kernel
theorem dX8_isBroken_91 : decode cX8_isBroken 91 = .ok (.goto 4, 3) := by decide +kernel
theorem dX8_isBroken_94 : decode cX8_isBroken 94 = .ok (.iconst 0, 1) := by decide +kernel
theorem dX8_isBroken_95 : decode cX8_isBroken 95 = .ok (.istore 6, 2) := by decide +kernel
theorem dX8_isBroken_97 : decode cX8_isBroken 97 = .ok (.iload 4, 2) := by decide +kernel
theorem dX8_isBroken_99 : decode cX8_isBroken 99 = .ok (.ifCond .ne 38, 3) := by decide +kernel
theorem dX8_isBroken_102 : decode cX8_isBroken 102 = .ok (.iload_n 1, 1) := by decide +kernel
theorem dX8_isBroken_103 : decode cX8_isBroken 103 = .ok (.ifCond .ne 8, 3) := by decide +kernel
theorem dX8_isBroken_106 : decode cX8_isBroken 106 = .ok (.iload 6, 2) := by decide +kernel
theorem dX8_isBroken_108 : decode cX8_isBroken 108 = .ok (.ifCond .ne 29, 3) := by decide +kernel
theorem dX8_isBroken_111 : decode cX8_isBroken 111 = .ok (.iload_n 1, 1) := by decide +kernel
theorem dX8_isBroken_112 : decode cX8_isBroken 112 = .ok (.iconst 2, 1) := by decide +kernel
theorem dX8_isBroken_113 : decode cX8_isBroken 113 = .ok (.if_icmp .ne 28, 3) := by decide +kernel
theorem dX8_isBroken_116 : decode cX8_isBroken 116 = .ok (.aload_n 0, 1) := by decide +kernel
theorem dX8_isBroken_117 : decode cX8_isBroken 117 = .ok (.getfield 28, 3) := by decide +kernel
theorem dX8_isBroken_120 : decode cX8_isBroken 120 = .ok (.iload 5, 2) := by decide +kernel
theorem dX8_isBroken_122 : decode cX8_isBroken 122 = .ok (.iaload, 1) := by decide +kernel
theorem dX8_isBroken_123 : decode cX8_isBroken 123 = .ok (.iload_n 2, 1) := by decide +kernel
theorem dX8_isBroken_124 : decode cX8_isBroken 124 = .ok (.if_icmp .ne 17, 3) := by decide +kernel
theorem dX8_isBroken_127 : decode cX8_isBroken 127 = .ok (.aload_n 0, 1) := by decide +kernel
theorem dX8_isBroken_128 : decode cX8_isBroken 128 = .ok (.iload 5, 2) := by decide +kernel
theorem dX8_isBroken_130 : decode cX8_isBroken 130 = .ok (.iload_n 3, 1) := by decide +kernel
theorem dX8_isBroken_131 : decode cX8_isBroken 131 = .ok (.invokevirtual 233, 3) := by decide +kernel
theorem dX8_isBroken_134 : decode cX8_isBroken 134 = .ok (.ifCond .eq 7, 3) := by decide +kernel
theorem dX8_isBroken_137 : decode cX8_isBroken 137 = .ok (.iconst 1, 1) := by decide +kernel
theorem dX8_isBroken_138 : decode cX8_isBroken 138 = .ok (.goto 4, 3) := by decide +kernel
theorem dX8_isBroken_141 : decode cX8_isBroken 141 = .ok (.iconst 0, 1) := by decide +kernel
theorem dX8_isBroken_142 : decode cX8_isBroken 142 = .ok (.istore 4, 2) := by decide +kernel
theorem dX8_isBroken_144 : decode cX8_isBroken 144 = .ok (.iinc 5 1, 3) := by decide +kernel
theorem dX8_isBroken_147 : decode cX8_isBroken 147 = .ok (.goto (-123), 3) := by decide +kernel
theorem dX8_isBroken_150 : decode cX8_isBroken 150 = .ok (.iload 4, 2) := by decide +kernel
theorem dX8_isBroken_152 : decode cX8_isBroken 152 = .ok (.ireturn, 1) := by decide +kernel
theorem dX8_empties_0 : decode cX8_empties 0 = .ok (.aload_n 0, 1) := by decide +kernel
theorem dX8_empties_1 : decode cX8_empties 1 = .ok (.getfield 70, 3) := by decide +kernel
theorem dX8_empties_4 : decode cX8_empties 4 = .ok (.iconst 2, 1) := by decide +kernel
theorem dX8_empties_5 : decode cX8_empties 5 = .ok (.iconst 0, 1) := by decide +kernel
theorem dX8_empties_6 : decode cX8_empties 6 = .ok (.iastore, 1) := by decide +kernel
theorem dX8_empties_7 : decode cX8_empties 7 = .ok (.aload_n 0, 1) := by decide +kernel
theorem dX8_empties_8 : decode cX8_empties 8 = .ok (.getfield 70, 3) := by decide +kernel
theorem dX8_empties_11 : decode cX8_empties 11 = .ok (.iconst 3, 1) := by decide +kernel
theorem dX8_empties_12 : decode cX8_empties 12 = .ok (.iconst 0, 1) := by decide +kernel
theorem dX8_empties_13 : decode cX8_empties 13 = .ok (.iastore, 1) := by decide +kernel
theorem dX8_empties_14 : decode cX8_empties 14 = .ok (.aload_n 0, 1) := by decide +kernel
theorem dX8_empties_15 : decode cX8_empties 15 = .ok (.getfield 70, 3) := by decide +kernel
theorem dX8_empties_18 : decode cX8_empties 18 = .ok (.iconst 4, 1) := by decide +kernel
theorem dX8_empties_19 : decode cX8_empties 19 = .ok (.iconst 0, 1) := by decide +kernel
theorem dX8_empties_20 : decode cX8_empties 20 = .ok (.iastore, 1) := by decide +kernel
theorem dX8_empties_21 : decode cX8_empties 21 = .ok (.iconst 0, 1) := by decide +kernel
theorem dX8_empties_22 : decode cX8_empties 22 = .ok (.istore_n 1, 1) := by decide +kernel
theorem dX8_empties_23 : decode cX8_empties 23 = .ok (.iload_n 1, 1) := by decide +kernel
theorem dX8_empties_24 : decode cX8_empties 24 = .ok (.bipush 8, 2) := by decide +kernel
theorem dX8_empties_26 : decode cX8_empties 26 = .ok (.if_icmp .ge 16, 3) := by decide +kernel
theorem dX8_empties_29 : decode cX8_empties 29 = .ok (.aload_n 0, 1) := by decide +kernel
theorem dX8_empties_30 : decode cX8_empties 30 = .ok (.getfield 67, 3) := by decide +kernel
theorem dX8_empties_33 : decode cX8_empties 33 = .ok (.iload_n 1, 1) := by decide +kernel
theorem dX8_empties_34 : decode cX8_empties 34 = .ok (.iconst 0, 1) := by decide +kernel
theorem dX8_empties_35 : decode cX8_empties 35 = .ok (.iastore, 1) := by decide +kernel
theorem dX8_empties_36 : decode cX8_empties 36 = .ok (.iinc 1 1, 3) := by decide +kernel
theorem dX8_empties_39 : decode cX8_empties 39 = .ok (.goto (-16), 3) := by decide +kernel
theorem dX8_empties_42 : decode cX8_empties 42 = .ok (.return_, 1) := by decide +kernel
theorem dX8_breaks_0 : decode cX8_breaks 0 = .ok (.aload_n 0, 1) := by decide +kernel
theorem dX8_breaks_1 : decode cX8_breaks 1 = .ok (.invokevirtual 252, 3) := by decide +kernel
theorem dX8_breaks_4 : decode cX8_breaks 4 = .ok (.iload_n 1, 1) := by decide +kernel
theorem dX8_breaks_5 : decode cX8_breaks 5 = .ok (.istore 6, 2) := by decide +kernel
theorem dX8_breaks_7 : decode cX8_breaks 7 = .ok (.iload_n 2, 1) := by decide +kernel
theorem dX8_breaks_8 : decode cX8_breaks 8 = .ok (.iconst 1, 1) := by decide +kernel
theorem dX8_breaks_9 : decode cX8_breaks 9 = .ok (.isub, 1) := by decide +kernel
theorem dX8_breaks_10 : decode cX8_breaks 10 = .ok (.istore 7, 2) := by decide +kernel
theorem dX8_breaks_12 : decode cX8_breaks 12 = .ok (.iload 7, 2) := by decide +kernel
theorem dX8_breaks_14 : decode cX8_breaks 14 = .ok (.ifCond .lt 37, 3) := by decide +kernel
theorem dX8_breaks_17 : decode cX8_breaks 17 = .ok (.aload_n 0, 1) := by decide +kernel
theorem dX8_breaks_18 : decode cX8_breaks 18 = .ok (.getfield 88, 3) := by decide +kernel
theorem dX8_breaks_21 : decode cX8_breaks 21 = .ok (.iload 7, 2) := by decide +kernel
theorem dX8_breaks_23 : decode cX8_breaks 23 = .ok (.aload_n 0, 1) := by decide +kernel
theorem dX8_breaks_24 : decode cX8_breaks 24 = .ok (.getfield 85, 3) := by decide +kernel
theorem dX8_breaks_27 : decode cX8_breaks 27 = .ok (.iload 6, 2) := by decide +kernel
theorem dX8_breaks_29 : decode cX8_breaks 29 = .ok (.aload_n 0, 1) := by decide +kernel
theorem dX8_breaks_30 : decode cX8_breaks 30 = .ok (.getfield 236, 3) := by decide +kernel
theorem dX8_breaks_33 : decode cX8_breaks 33 = .ok (.irem, 1) := by decide +kernel
theorem dX8_breaks_34 : decode cX8_breaks 34 = .ok (.iaload, 1) := by decide +kernel
theorem dX8_breaks_35 : decode cX8_breaks 35 = .ok (.iastore, 1) := by decide +kernel
theorem dX8_breaks_36 : decode cX8_breaks 36 = .ok (.iload 6, 2) := by decide +kernel
theorem dX8_breaks_38 : decode cX8_breaks 38 = .ok (.aload_n 0, 1) := by decide +kernel
theorem dX8_breaks_39 : decode cX8_breaks 39 = .ok (.getfield 236, 3) := by decide +kernel
theorem dX8_breaks_42 : decode cX8_breaks 42 = .ok (.idiv, 1) := by decide +kernel
theorem dX8_breaks_43 : decode cX8_breaks 43 = .ok (.istore 6, 2) := by decide +kernel
theorem dX8_breaks_45 : decode cX8_breaks 45 = .ok (.iinc 7 (-1), 3) := by decide +kernel
theorem dX8_breaks_48 : decode cX8_breaks 48 = .ok (.goto (-36), 3) := by decide +kernel
theorem dX8_breaks_51 : decode cX8_breaks 51 = .ok (.iconst 0, 1) := by decide +kernel
theorem dX8_breaks_52 : decode cX8_breaks 52 = .ok (.istore 7, 2) := by decide +kernel
theorem dX8_breaks_54 : decode cX8_breaks 54 = .ok (.iload 7, 2) := by decide +kernel
theorem dX8_breaks_56 : decode cX8_breaks 56 = .ok (.iload_n 2, 1) := by decide +kernel
theorem dX8_breaks_57 : decode cX8_breaks 57 = .ok (.if_icmp .ge 25, 3) := by decide +kernel
theorem dX8_breaks_60 : decode cX8_breaks 60 = .ok (.aload_n 0, 1) := by decide +kernel
theorem dX8_breaks_61 : decode cX8_breaks 61 = .ok (.aload_n 0, 1) := by decide +kernel
theorem dX8_breaks_62 : decode cX8_breaks 62 = .ok (.getfield 88, 3) := by decide +kernel
theorem dX8_breaks_65 : decode cX8_breaks 65 = .ok (.iload 7, 2) := by decide +kernel
theorem dX8_breaks_67 : decode cX8_breaks 67 = .ok (.iaload, 1) := by decide +kernel
theorem dX8_breaks_68 : decode cX8_breaks 68 = .ok (.invokevirtual 255, 3) := by decide +kernel
theorem dX8_breaks_71 : decode cX8_breaks 71 = .ok (.ifCond .ne 5, 3) := by decide +kernel
theorem dX8_breaks_74 : decode cX8_breaks 74 = .ok (.iconst 0, 1) := by decide +kernel
theorem dX8_breaks_75 : decode cX8_breaks 75 = .ok (.ireturn, 1) := by decide +kernel
theorem dX8_breaks_76 : decode cX8_breaks 76 = .ok (.iinc 7 1, 3) := by decide +kernel
theorem dX8_breaks_79 : decode cX8_breaks 79 = .ok (.goto (-25), 3) := by decide +kernel
theorem dX8_breaks_82 : decode cX8_breaks 82 = .ok (.aload_n 0, 1) := by decide +kernel
theorem dX8_breaks_83 : decode cX8_breaks 83 = .ok (.iload_n 3, 1) := by decide +kernel
theorem dX8_breaks_84 : decode cX8_breaks 84 = .ok (.iload 4, 2) := by decide +kernel
theorem dX8_breaks_86 : decode cX8_breaks 86 = .ok (.iload 5, 2) := by decide +kernel
theorem dX8_breaks_88 : decode cX8_breaks 88 = .ok (.invokevirtual 258, 3) := by decide +kernel
theorem dX8_breaks_91 : decode cX8_breaks 91 = .ok (.ireturn, 1) := by decide +kernel
theorem dX8_search_0 : decode cX8_search 0 = .ok (.aload_n 0, 1) := by decide +kernel
theorem dX8_search_1 : decode cX8_search 1 = .ok (.getfield 109, 3) := by decide +kernel
theorem dX8_search_4 : decode cX8_search 4 = .ok (.istore 6, 2) := by decide +kernel
theorem dX8_search_6 : decode cX8_search 6 = .ok (.aload_n 0, 1) := by decide +kernel
theorem dX8_search_7 : decode cX8_search 7 = .ok (.aload_n 0, 1) := by decide +kernel
theorem dX8_search_8 : decode cX8_search 8 = .ok (.getfield 76, 3) := by decide +kernel
theorem dX8_search_11 : decode cX8_search 11 = .ok (.iconst 1, 1) := by decide +kernel
theorem dX8_search_12 : decode cX8_search 12 = .ok (.invokevirtual 219, 3) := by decide +kernel
theorem dX8_search_15 : decode cX8_search 15 = .ok (.aload_n 0, 1) := by decide +kernel
theorem dX8_search_16 : decode cX8_search 16 = .ok (.iload 4, 2) := by decide +kernel
theorem dX8_search_18 : decode cX8_search 18 = .ok (.invokevirtual 261, 3) := by decide +kernel
theorem dX8_search_21 : decode cX8_search 21 = .ok (.iconst 0, 1) := by decide +kernel
theorem dX8_search_22 : decode cX8_search 22 = .ok (.istore 7, 2) := by decide +kernel
theorem dX8_search_24 : decode cX8_search 24 = .ok (.iconst 1, 1) := by decide +kernel
theorem dX8_search_25 : decode cX8_search 25 = .ok (.istore 8, 2) := by decide +kernel
theorem dX8_search_27 : decode cX8_search 27 = .ok (.iconst 1, 1) := by decide +kernel
theorem dX8_search_28 : decode cX8_search 28 = .ok (.istore 9, 2) := by decide +kernel
theorem dX8_search_30 : decode cX8_search 30 = .ok (.iload 9, 2) := by decide +kernel
theorem dX8_search_32 : decode cX8_search 32 = .ok (.iload 5, 2) := by decide +kernel
theorem dX8_search_34 : decode cX8_search 34 = .ok (.if_icmp .gt 62, 3) := by decide +kernel
theorem dX8_search_37 : decode cX8_search 37 = .ok (.iload 7, 2) := by decide +kernel
theorem dX8_search_39 : decode cX8_search 39 = .ok (.ifCond .ne 57, 3) := by decide +kernel
theorem dX8_search_42 : decode cX8_search 42 = .ok (.iload 8, 2) := by decide +kernel
theorem dX8_search_44 : decode cX8_search 44 = .ok (.aload_n 0, 1) := by decide +kernel
theorem dX8_search_45 : decode cX8_search 45 = .ok (.getfield 236, 3) := by decide +kernel
theorem dX8_search_48 : decode cX8_search 48 = .ok (.imul, 1) := by decide +kernel
theorem dX8_search_49 : decode cX8_search 49 = .ok (.istore 8, 2) := by decide +kernel
theorem dX8_search_51 : decode cX8_search 51 = .ok (.iconst 0, 1) := by decide +kernel
theorem dX8_search_52 : decode cX8_search 52 = .ok (.istore 10, 2) := by decide +kernel
theorem dX8_search_54 : decode cX8_search 54 = .ok (.iload 10, 2) := by decide +kernel
theorem dX8_search_56 : decode cX8_search 56 = .ok (.iload 8, 2) := by decide +kernel
theorem dX8_search_58 : decode cX8_search 58 = .ok (.if_icmp .ge 32, 3) := by decide +kernel
theorem dX8_search_61 : decode cX8_search 61 = .ok (.iload 7, 2) := by decide +kernel
theorem dX8_search_63 : decode cX8_search 63 = .ok (.ifCond .ne 27, 3) := by decide +kernel
theorem dX8_search_66 : decode cX8_search 66 = .ok (.aload_n 0, 1) := by decide +kernel
theorem dX8_search_67 : decode cX8_search 67 = .ok (.iload 10, 2) := by decide +kernel
theorem dX8_search_69 : decode cX8_search 69 = .ok (.iload 9, 2) := by decide +kernel
theorem dX8_search_71 : decode cX8_search 71 = .ok (.iload_n 1, 1) := by decide +kernel
theorem dX8_search_72 : decode cX8_search 72 = .ok (.iload_n 2, 1) := by decide +kernel
theorem dX8_search_73 : decode cX8_search 73 = .ok (.iload_n 3, 1) := by decide +kernel
theorem dX8_search_74 : decode cX8_search 74 = .ok (.invokevirtual 264, 3) := by decide +kernel
theorem dX8_search_77 : decode cX8_search 77 = .ok (.ifCond .eq 7, 3) := by decide +kernel
theorem dX8_search_80 : decode cX8_search 80 = .ok (.iload 9, 2) := by decide +kernel
theorem dX8_search_82 : decode cX8_search 82 = .ok (.istore 7, 2) := by decide +kernel
theorem dX8_search_84 : decode cX8_search 84 = .ok (.iinc 10 1, 3) := by decide +kernel
theorem dX8_search_87 : decode cX8_search 87 = .ok (.goto (-33), 3) := by decide +kernel
theorem dX8_search_90 : decode cX8_search 90 = .ok (.iinc 9 1, 3) := by decide +kernel
theorem dX8_search_93 : decode cX8_search 93 = .ok (.goto (-63), 3) := by decide +kernel
theorem dX8_search_96 : decode cX8_search 96 = .ok (.aload_n 0, 1) := by decide +kernel
theorem dX8_search_97 : decode cX8_search 97 = .ok (.aload_n 0, 1) := by decide +kernel
theorem dX8_search_98 : decode cX8_search 98 = .ok (.getfield 76, 3) := by decide +kernel
theorem dX8_search_101 : decode cX8_search 101 = .ok (.iconst 0, 1) := by decide +kernel
theorem dX8_search_102 : decode cX8_search 102 = .ok (.invokevirtual 219, 3) := by decide +kernel
theorem dX8_search_105 : decode cX8_search 105 = .ok (.aload_n 0, 1) := by decide +kernel
theorem dX8_search_106 : decode cX8_search 106 = .ok (.iload 6, 2) := by decide +kernel
theorem dX8_search_108 : decode cX8_search 108 = .ok (.putfield 109, 3) := by decide +kernel
theorem dX8_search_111 : decode cX8_search 111 = .ok (.iload 7, 2) := by decide +kernel
theorem dX8_search_113 : decode cX8_search 113 = .ok (.ireturn, 1) := by decide +kernel
theorem dX8_bits_0 : decode cX8_bits 0 = .ok (.iconst 0, 1) := by decide +kernel
theorem dX8_bits_1 : decode cX8_bits 1 = .ok (.istore_n 1, 1) := by decide +kernel
theorem dX8_bits_2 : decode cX8_bits 2 = .ok (.iconst 0, 1) := by decide +kernel
theorem dX8_bits_3 : decode cX8_bits 3 = .ok (.istore_n 2, 1) := by decide +kernel
theorem dX8_bits_4 : decode cX8_bits 4 = .ok (.iload_n 2, 1) := by decide +kernel
theorem dX8_bits_5 : decode cX8_bits 5 = .ok (.bipush 8, 2) := by decide +kernel
theorem dX8_bits_7 : decode cX8_bits 7 = .ok (.if_icmp .ge 17, 3) := by decide +kernel
theorem dX8_bits_10 : decode cX8_bits 10 = .ok (.iload_n 1, 1) := by decide +kernel
theorem dX8_bits_11 : decode cX8_bits 11 = .ok (.iload_n 0, 1) := by decide +kernel
theorem dX8_bits_12 : decode cX8_bits 12 = .ok (.iload_n 2, 1) := by decide +kernel
theorem dX8_bits_13 : decode cX8_bits 13 = .ok (.ishr, 1) := by decide +kernel
theorem dX8_bits_14 : decode cX8_bits 14 = .ok (.iconst 1, 1) := by decide +kernel
theorem dX8_bits_15 : decode cX8_bits 15 = .ok (.iand, 1) := by decide +kernel
theorem dX8_bits_16 : decode cX8_bits 16 = .ok (.iadd, 1) := by decide +kernel
theorem dX8_bits_17 : decode cX8_bits 17 = .ok (.istore_n 1, 1) := by decide +kernel
theorem dX8_bits_18 : decode cX8_bits 18 = .ok (.iinc 2 1, 3) := by decide +kernel
theorem dX8_bits_21 : decode cX8_bits 21 = .ok (.goto (-17), 3) := by decide +kernel
theorem dX8_bits_24 : decode cX8_bits 24 = .ok (.iload_n 1, 1) := by decide +kernel
theorem dX8_bits_25 : decode cX8_bits 25 = .ok (.ireturn, 1) := by decide +kernel
theorem dX8_isAsked_0 : decode cX8_isAsked 0 = .ok (.iload_n 1, 1) := by decide +kernel
theorem dX8_isAsked_1 : decode cX8_isAsked 1 = .ok (.i2l, 1) := by decide +kernel
theorem dX8_isAsked_2 : decode cX8_isAsked 2 = .ok (.lconst 0, 1) := by decide +kernel
theorem dX8_isAsked_3 : decode cX8_isAsked 3 = .ok (.ldc2_w 267, 3) := by decide +kernel
theorem dX8_isAsked_6 : decode cX8_isAsked 6 = .ok (.invokestatic 126, 3) := by decide +kernel
theorem dX8_isAsked_9 : decode cX8_isAsked 9 = .ok (.ifCond .eq 24, 3) := by decide +kernel
theorem dX8_isAsked_12 : decode cX8_isAsked 12 = .ok (.aload_n 0, 1) := by decide +kernel
theorem dX8_isAsked_13 : decode cX8_isAsked 13 = .ok (.iload_n 2, 1) := by decide +kernel
theorem dX8_isAsked_14 : decode cX8_isAsked 14 = .ok (.invokevirtual 120, 3) := by decide +kernel
theorem dX8_isAsked_17 : decode cX8_isAsked 17 = .ok (.ifCond .eq 16, 3) := by decide +kernel
theorem dX8_isAsked_20 : decode cX8_isAsked 20 = .ok (.iload_n 1, 1) := by decide +kernel
theorem dX8_isAsked_21 : decode cX8_isAsked 21 = .ok (.iconst 1, 1) := by decide +kernel
theorem dX8_isAsked_22 : decode cX8_isAsked 22 = .ok (.if_icmp .eq 13, 3) := by decide +kernel
theorem dX8_isAsked_25 : decode cX8_isAsked 25 = .ok (.aload_n 0, 1) := by decide +kernel
theorem dX8_isAsked_26 : decode cX8_isAsked 26 = .ok (.iload_n 3, 1) := by decide +kernel
theorem dX8_isAsked_27 : decode cX8_isAsked 27 = .ok (.invokevirtual 120, 3) := by decide +kernel
theorem dX8_isAsked_30 : decode cX8_isAsked 30 = .ok (.ifCond .ne 5, 3) := by decide +kernel
theorem dX8_isAsked_33 : decode cX8_isAsked 33 = .ok (.iconst 0, 1) := by decide +kernel
theorem dX8_isAsked_34 : decode cX8_isAsked 34 = .ok (.ireturn, 1) := by decide +kernel
theorem dX8_isAsked_35 : decode cX8_isAsked 35 = .ok (.iload 4, 2) := by decide +kernel
theorem dX8_isAsked_37 : decode cX8_isAsked 37 = .ok (.ifCond .lt 42, 3) := by decide +kernel
theorem dX8_isAsked_40 : decode cX8_isAsked 40 = .ok (.iload 4, 2) := by decide +kernel
theorem dX8_isAsked_42 : decode cX8_isAsked 42 = .ok (.iconst 1, 1) := by decide +kernel
theorem dX8_isAsked_43 : decode cX8_isAsked 43 = .ok (.aload_n 0, 1) := by decide +kernel
theorem dX8_isAsked_44 : decode cX8_isAsked 44 = .ok (.getfield 70, 3) := by decide +kernel
theorem dX8_isAsked_47 : decode cX8_isAsked 47 = .ok (.iconst 0, 1) := by decide +kernel
theorem dX8_isAsked_48 : decode cX8_isAsked 48 = .ok (.iaload, 1) := by decide +kernel
theorem dX8_isAsked_49 : decode cX8_isAsked 49 = .ok (.ishl, 1) := by decide +kernel
theorem dX8_isAsked_50 : decode cX8_isAsked 50 = .ok (.if_icmp .ge 29, 3) := by decide +kernel
theorem dX8_isAsked_53 : decode cX8_isAsked 53 = .ok (.iload 4, 2) := by decide +kernel
theorem dX8_isAsked_55 : decode cX8_isAsked 55 = .ok (.invokestatic 269, 3) := by decide +kernel
theorem dX8_isAsked_58 : decode cX8_isAsked 58 = .ok (.iconst 3, 1) := by decide +kernel
theorem dX8_isAsked_59 : decode cX8_isAsked 59 = .ok (.if_icmp .gt 20, 3) := by decide +kernel
theorem dX8_isAsked_62 : decode cX8_isAsked 62 = .ok (.iload 5, 2) := by decide +kernel
theorem dX8_isAsked_64 : decode cX8_isAsked 64 = .ok (.i2l, 1) := by decide +kernel
theorem dX8_isAsked_65 : decode cX8_isAsked 65 = .ok (.lconst 1, 1) := by decide +kernel
theorem dX8_isAsked_66 : decode cX8_isAsked 66 = .ok (.ldc2_w 272, 3) := by decide +kernel
theorem dX8_isAsked_69 : decode cX8_isAsked 69 = .ok (.invokestatic 126, 3) := by decide +kernel
theorem dX8_isAsked_72 : decode cX8_isAsked 72 = .ok (.ifCond .eq 7, 3) := by decide +kernel
theorem dX8_isAsked_75 : decode cX8_isAsked 75 = .ok (.iconst 1, 1) := by decide +kernel
theorem dX8_isAsked_76 : decode cX8_isAsked 76 = .ok (.goto 4, 3) := by decide +kernel
theorem dX8_isAsked_79 : decode cX8_isAsked 79 = .ok (.iconst 0, 1) := by decide +kernel
theorem dX8_isAsked_80 : decode cX8_isAsked 80 = .ok (.ireturn, 1) := by decide +kernel
theorem dX8_judge_0 : decode cX8_judge 0 = .ok (.aload_n 0, 1) := by decide +kernel
theorem dX8_judge_1 : decode cX8_judge 1 = .ok (.iload_n 1, 1) := by decide +kernel
theorem dX8_judge_2 : decode cX8_judge 2 = .ok (.iload_n 2, 1) := by decide +kernel
theorem dX8_judge_3 : decode cX8_judge 3 = .ok (.iload_n 3, 1) := by decide +kernel
theorem dX8_judge_4 : decode cX8_judge 4 = .ok (.iload 4, 2) := by decide +kernel
theorem dX8_judge_6 : decode cX8_judge 6 = .ok (.iload 5, 2) := by decide +kernel
theorem dX8_judge_8 : decode cX8_judge 8 = .ok (.invokevirtual 274, 3) := by decide +kernel
theorem dX8_judge_11 : decode cX8_judge 11 = .ok (.ifCond .ne 9, 3) := by decide +kernel
theorem dX8_judge_14 : decode cX8_judge 14 = .ok (.aload_n 0, 1) := by decide +kernel
theorem dX8_judge_15 : decode cX8_judge 15 = .ok (.iconst 1, 1) := by decide +kernel
theorem dX8_judge_16 : decode cX8_judge 16 = .ok (.invokevirtual 113, 3) := by decide +kernel
theorem dX8_judge_19 : decode cX8_judge 19 = .ok (.ireturn, 1) := by decide +kernel
theorem dX8_judge_20 : decode cX8_judge 20 = .ok (.aload_n 0, 1) := by decide +kernel
theorem dX8_judge_21 : decode cX8_judge 21 = .ok (.aload_n 0, 1) := by decide +kernel
theorem dX8_judge_22 : decode cX8_judge 22 = .ok (.iload_n 1, 1) := by decide +kernel
theorem dX8_judge_23 : decode cX8_judge 23 = .ok (.iload_n 2, 1) := by decide +kernel
theorem dX8_judge_24 : decode cX8_judge 24 = .ok (.iload_n 3, 1) := by decide +kernel
theorem dX8_judge_25 : decode cX8_judge 25 = .ok (.iload 4, 2) := by decide +kernel
theorem dX8_judge_27 : decode cX8_judge 27 = .ok (.iload 5, 2) := by decide +kernel
theorem dX8_judge_29 : decode cX8_judge 29 = .ok (.invokevirtual 277, 3) := by decide +kernel
theorem dX8_judge_32 : decode cX8_judge 32 = .ok (.putfield 280, 3) := by decide +kernel
theorem dX8_judge_35 : decode cX8_judge 35 = .ok (.iconst 0, 1) := by decide +kernel
theorem dX8_judge_36 : decode cX8_judge 36 = .ok (.istore 6, 2) := by decide +kernel
theorem dX8_judge_38 : decode cX8_judge 38 = .ok (.iload 6, 2) := by decide +kernel
theorem dX8_judge_40 : decode cX8_judge 40 = .ok (.aload_n 0, 1) := by decide +kernel
theorem dX8_judge_41 : decode cX8_judge 41 = .ok (.getfield 280, 3) := by decide +kernel
theorem dX8_judge_44 : decode cX8_judge 44 = .ok (.if_icmp .ge 23, 3) := by decide +kernel
theorem dX8_judge_47 : decode cX8_judge 47 = .ok (.aload_n 0, 1) := by decide +kernel
theorem dX8_judge_48 : decode cX8_judge 48 = .ok (.getfield 91, 3) := by decide +kernel
theorem dX8_judge_51 : decode cX8_judge 51 = .ok (.iload 6, 2) := by decide +kernel
theorem dX8_judge_53 : decode cX8_judge 53 = .ok (.aload_n 0, 1) := by decide +kernel
theorem dX8_judge_54 : decode cX8_judge 54 = .ok (.getfield 88, 3) := by decide +kernel
theorem dX8_judge_57 : decode cX8_judge 57 = .ok (.iload 6, 2) := by decide +kernel
theorem dX8_judge_59 : decode cX8_judge 59 = .ok (.iaload, 1) := by decide +kernel
theorem dX8_judge_60 : decode cX8_judge 60 = .ok (.iastore, 1) := by decide +kernel
theorem dX8_judge_61 : decode cX8_judge 61 = .ok (.iinc 6 1, 3) := by decide +kernel
theorem dX8_judge_64 : decode cX8_judge 64 = .ok (.goto (-26), 3) := by decide +kernel
theorem dX8_judge_67 : decode cX8_judge 67 = .ok (.aload_n 0, 1) := by decide +kernel
theorem dX8_judge_68 : decode cX8_judge 68 = .ok (.aload_n 0, 1) := by decide +kernel
theorem dX8_judge_69 : decode cX8_judge 69 = .ok (.getfield 280, 3) := by decide +kernel
theorem dX8_judge_72 : decode cX8_judge 72 = .ok (.invokevirtual 117, 3) := by decide +kernel
theorem dX8_judge_75 : decode cX8_judge 75 = .ok (.ireturn, 1) := by decide +kernel
theorem dX8_actOf_0 : decode cX8_actOf 0 = .ok (.iload_n 1, 1) := by decide +kernel
theorem dX8_actOf_1 : decode cX8_actOf 1 = .ok (.i2l, 1) := by decide +kernel
theorem dX8_actOf_2 : decode cX8_actOf 2 = .ok (.lconst 0, 1) := by decide +kernel
theorem dX8_actOf_3 : decode cX8_actOf 3 = .ok (.aload_n 0, 1) := by decide +kernel
theorem dX8_actOf_4 : decode cX8_actOf 4 = .ok (.getfield 280, 3) := by decide +kernel
theorem dX8_actOf_7 : decode cX8_actOf 7 = .ok (.iconst 1, 1) := by decide +kernel
theorem dX8_actOf_8 : decode cX8_actOf 8 = .ok (.isub, 1) := by decide +kernel
theorem dX8_actOf_9 : decode cX8_actOf 9 = .ok (.i2l, 1) := by decide +kernel
theorem dX8_actOf_10 : decode cX8_actOf 10 = .ok (.invokestatic 126, 3) := by decide +kernel
theorem dX8_actOf_13 : decode cX8_actOf 13 = .ok (.ifCond .eq 12, 3) := by decide +kernel
theorem dX8_actOf_16 : decode cX8_actOf 16 = .ok (.aload_n 0, 1) := by decide +kernel
theorem dX8_actOf_17 : decode cX8_actOf 17 = .ok (.getfield 91, 3) := by decide +kernel
theorem dX8_actOf_20 : decode cX8_actOf 20 = .ok (.iload_n 1, 1) := by decide +kernel
theorem dX8_actOf_21 : decode cX8_actOf 21 = .ok (.iaload, 1) := by decide +kernel
theorem dX8_actOf_22 : decode cX8_actOf 22 = .ok (.goto 4, 3) := by decide +kernel
theorem dX8_actOf_25 : decode cX8_actOf 25 = .ok (.iconst (-1), 1) := by decide +kernel
theorem dX8_actOf_26 : decode cX8_actOf 26 = .ok (.ireturn, 1) := by decide +kernel
theorem dX8_isOfThese_0 : decode cX8_isOfThese 0 = .ok (.aload_n 0, 1) := by decide +kernel
theorem dX8_isOfThese_1 : decode cX8_isOfThese 1 = .ok (.getfield 13, 3) := by decide +kernel
theorem dX8_isOfThese_4 : decode cX8_isOfThese 4 = .ok (.iload_n 1, 1) := by decide +kernel
theorem dX8_isOfThese_5 : decode cX8_isOfThese 5 = .ok (.iaload, 1) := by decide +kernel
theorem dX8_isOfThese_6 : decode cX8_isOfThese 6 = .ok (.iconst 1, 1) := by decide +kernel
theorem dX8_isOfThese_7 : decode cX8_isOfThese 7 = .ok (.if_icmp .eq 23, 3) := by decide +kernel
theorem dX8_isOfThese_10 : decode cX8_isOfThese 10 = .ok (.aload_n 0, 1) := by decide +kernel
theorem dX8_isOfThese_11 : decode cX8_isOfThese 11 = .ok (.getfield 13, 3) := by decide +kernel
theorem dX8_isOfThese_14 : decode cX8_isOfThese 14 = .ok (.iload_n 1, 1) := by decide +kernel
theorem dX8_isOfThese_15 : decode cX8_isOfThese 15 = .ok (.iaload, 1) := by decide +kernel
theorem dX8_isOfThese_16 : decode cX8_isOfThese 16 = .ok (.iconst 2, 1) := by decide +kernel
theorem dX8_isOfThese_17 : decode cX8_isOfThese 17 = .ok (.if_icmp .eq 13, 3) := by decide +kernel
theorem dX8_isOfThese_20 : decode cX8_isOfThese 20 = .ok (.aload_n 0, 1) := by decide +kernel
theorem dX8_isOfThese_21 : decode cX8_isOfThese 21 = .ok (.getfield 13, 3) := by decide +kernel
theorem dX8_isOfThese_24 : decode cX8_isOfThese 24 = .ok (.iload_n 1, 1) := by decide +kernel
theorem dX8_isOfThese_25 : decode cX8_isOfThese 25 = .ok (.iaload, 1) := by decide +kernel
theorem dX8_isOfThese_26 : decode cX8_isOfThese 26 = .ok (.iconst 4, 1) := by decide +kernel
theorem dX8_isOfThese_27 : decode cX8_isOfThese 27 = .ok (.if_icmp .ne 7, 3) := by decide +kernel
theorem dX8_isOfThese_30 : decode cX8_isOfThese 30 = .ok (.iconst 1, 1) := by decide +kernel
theorem dX8_isOfThese_31 : decode cX8_isOfThese 31 = .ok (.goto 4, 3) := by decide +kernel
theorem dX8_isOfThese_34 : decode cX8_isOfThese 34 = .ok (.iconst 0, 1) := by decide +kernel
theorem dX8_isOfThese_35 : decode cX8_isOfThese 35 = .ok (.ireturn, 1) := by decide +kernel
theorem dX8_alone_0 : decode cX8_alone 0 = .ok (.aload_n 0, 1) := by decide +kernel
theorem dX8_alone_1 : decode cX8_alone 1 = .ok (.iload_n 1, 1) := by decide +kernel
theorem dX8_alone_2 : decode cX8_alone 2 = .ok (.iload_n 2, 1) := by decide +kernel
theorem dX8_alone_3 : decode cX8_alone 3 = .ok (.iload_n 3, 1) := by decide +kernel
theorem dX8_alone_4 : decode cX8_alone 4 = .ok (.iload 4, 2) := by decide +kernel
theorem dX8_alone_6 : decode cX8_alone 6 = .ok (.iload 5, 2) := by decide +kernel
theorem dX8_alone_8 : decode cX8_alone 8 = .ok (.invokevirtual 274, 3) := by decide +kernel
theorem dX8_alone_11 : decode cX8_alone 11 = .ok (.ifCond .ne 5, 3) := by decide +kernel
theorem dX8_alone_14 : decode cX8_alone 14 = .ok (.iconst (-1), 1) := by decide +kernel
theorem dX8_alone_15 : decode cX8_alone 15 = .ok (.ireturn, 1) := by decide +kernel
theorem dX8_alone_16 : decode cX8_alone 16 = .ok (.iconst 0, 1) := by decide +kernel
theorem dX8_alone_17 : decode cX8_alone 17 = .ok (.istore 6, 2) := by decide +kernel
theorem dX8_alone_19 : decode cX8_alone 19 = .ok (.iload 6, 2) := by decide +kernel
theorem dX8_alone_21 : decode cX8_alone 21 = .ok (.aload_n 0, 1) := by decide +kernel
theorem dX8_alone_22 : decode cX8_alone 22 = .ok (.getfield 70, 3) := by decide +kernel
theorem dX8_alone_25 : decode cX8_alone 25 = .ok (.iconst 1, 1) := by decide +kernel
theorem dX8_alone_26 : decode cX8_alone 26 = .ok (.iaload, 1) := by decide +kernel
theorem dX8_alone_27 : decode cX8_alone 27 = .ok (.if_icmp .ge 23, 3) := by decide +kernel
theorem dX8_alone_30 : decode cX8_alone 30 = .ok (.aload_n 0, 1) := by decide +kernel
theorem dX8_alone_31 : decode cX8_alone 31 = .ok (.getfield 94, 3) := by decide +kernel
theorem dX8_alone_34 : decode cX8_alone 34 = .ok (.iload 6, 2) := by decide +kernel
theorem dX8_alone_36 : decode cX8_alone 36 = .ok (.aload_n 0, 1) := by decide +kernel
theorem dX8_alone_37 : decode cX8_alone 37 = .ok (.getfield 25, 3) := by decide +kernel
theorem dX8_alone_40 : decode cX8_alone 40 = .ok (.iload 6, 2) := by decide +kernel
theorem dX8_alone_42 : decode cX8_alone 42 = .ok (.iaload, 1) := by decide +kernel
theorem dX8_alone_43 : decode cX8_alone 43 = .ok (.iastore, 1) := by decide +kernel
theorem dX8_alone_44 : decode cX8_alone 44 = .ok (.iinc 6 1, 3) := by decide +kernel
theorem dX8_alone_47 : decode cX8_alone 47 = .ok (.goto (-28), 3) := by decide +kernel
theorem dX8_alone_50 : decode cX8_alone 50 = .ok (.iconst (-1), 1) := by decide +kernel
theorem dX8_alone_51 : decode cX8_alone 51 = .ok (.istore 6, 2) := by decide +kernel
theorem dX8_alone_53 : decode cX8_alone 53 = .ok (.iconst 0, 1) := by decide +kernel
theorem dX8_alone_54 : decode cX8_alone 54 = .ok (.istore 7, 2) := by decide +kernel
theorem dX8_alone_56 : decode cX8_alone 56 = .ok (.iload 7, 2) := by decide +kernel
theorem dX8_alone_58 : decode cX8_alone 58 = .ok (.aload_n 0, 1) := by decide +kernel
theorem dX8_alone_59 : decode cX8_alone 59 = .ok (.getfield 70, 3) := by decide +kernel
theorem dX8_alone_62 : decode cX8_alone 62 = .ok (.iconst 1, 1) := by decide +kernel
theorem dX8_alone_63 : decode cX8_alone 63 = .ok (.iaload, 1) := by decide +kernel
theorem dX8_alone_64 : decode cX8_alone 64 = .ok (.if_icmp .ge 102, 3) := by decide +kernel
theorem dX8_alone_67 : decode cX8_alone 67 = .ok (.iload 6, 2) := by decide +kernel
theorem dX8_alone_69 : decode cX8_alone 69 = .ok (.ifCond .ge 97, 3) := by decide +kernel
theorem dX8_alone_72 : decode cX8_alone 72 = .ok (.aload_n 0, 1) := by decide +kernel
theorem dX8_alone_73 : decode cX8_alone 73 = .ok (.iload 7, 2) := by decide +kernel
theorem dX8_alone_75 : decode cX8_alone 75 = .ok (.invokevirtual 283, 3) := by decide +kernel
theorem dX8_alone_78 : decode cX8_alone 78 = .ok (.ifCond .ne 6, 3) := by decide +kernel
theorem dX8_alone_81 : decode cX8_alone 81 = .ok (.goto 79, 3) := by decide +kernel
theorem dX8_alone_84 : decode cX8_alone 84 = .ok (.iconst 0, 1) := by decide +kernel
theorem dX8_alone_85 : decode cX8_alone 85 = .ok (.istore 8, 2) := by decide +kernel
theorem dX8_alone_87 : decode cX8_alone 87 = .ok (.iload 8, 2) := by decide +kernel
theorem dX8_alone_89 : decode cX8_alone 89 = .ok (.aload_n 0, 1) := by decide +kernel
theorem dX8_alone_90 : decode cX8_alone 90 = .ok (.getfield 70, 3) := by decide +kernel
theorem dX8_alone_93 : decode cX8_alone 93 = .ok (.iconst 1, 1) := by decide +kernel
theorem dX8_alone_94 : decode cX8_alone 94 = .ok (.iaload, 1) := by decide +kernel
theorem dX8_alone_95 : decode cX8_alone 95 = .ok (.if_icmp .ge 47, 3) := by decide +kernel
theorem dX8_alone_98 : decode cX8_alone 98 = .ok (.aload_n 0, 1) := by decide +kernel
theorem dX8_alone_99 : decode cX8_alone 99 = .ok (.getfield 25, 3) := by decide +kernel
theorem dX8_alone_102 : decode cX8_alone 102 = .ok (.iload 8, 2) := by decide +kernel
theorem dX8_alone_104 : decode cX8_alone 104 = .ok (.aload_n 0, 1) := by decide +kernel
theorem dX8_alone_105 : decode cX8_alone 105 = .ok (.iload 8, 2) := by decide +kernel
theorem dX8_alone_107 : decode cX8_alone 107 = .ok (.invokevirtual 283, 3) := by decide +kernel
theorem dX8_alone_110 : decode cX8_alone 110 = .ok (.ifCond .eq 18, 3) := by decide +kernel
theorem dX8_alone_113 : decode cX8_alone 113 = .ok (.iload 8, 2) := by decide +kernel
theorem dX8_alone_115 : decode cX8_alone 115 = .ok (.iload 7, 2) := by decide +kernel
theorem dX8_alone_117 : decode cX8_alone 117 = .ok (.if_icmp .ne 7, 3) := by decide +kernel
theorem dX8_alone_120 : decode cX8_alone 120 = .ok (.iconst 1, 1) := by decide +kernel
theorem dX8_alone_121 : decode cX8_alone 121 = .ok (.goto 14, 3) := by decide +kernel
theorem dX8_alone_124 : decode cX8_alone 124 = .ok (.iconst 0, 1) := by decide +kernel
theorem dX8_alone_125 : decode cX8_alone 125 = .ok (.goto 10, 3) := by decide +kernel
theorem dX8_alone_128 : decode cX8_alone 128 = .ok (.aload_n 0, 1) := by decide +kernel
theorem dX8_alone_129 : decode cX8_alone 129 = .ok (.getfield 94, 3) := by decide +kernel
theorem dX8_alone_132 : decode cX8_alone 132 = .ok (.iload 8, 2) := by decide +kernel
theorem dX8_alone_134 : decode cX8_alone 134 = .ok (.iaload, 1) := by decide +kernel
theorem dX8_alone_135 : decode cX8_alone 135 = .ok (.iastore, 1) := by decide +kernel
theorem dX8_alone_136 : decode cX8_alone 136 = .ok (.iinc 8 1, 3) := by decide +kernel
theorem dX8_alone_139 : decode cX8_alone 139 = .ok (.goto (-52), 3) := by decide +kernel
theorem dX8_alone_142 : decode cX8_alone 142 = .ok (.aload_n 0, 1) := by decide +kernel
theorem dX8_alone_143 : decode cX8_alone 143 = .ok (.iload_n 1, 1) := by decide +kernel
theorem dX8_alone_144 : decode cX8_alone 144 = .ok (.iload_n 2, 1) := by decide +kernel
theorem dX8_alone_145 : decode cX8_alone 145 = .ok (.iload_n 3, 1) := by decide +kernel
theorem dX8_alone_146 : decode cX8_alone 146 = .ok (.iload 4, 2) := by decide +kernel
theorem dX8_alone_148 : decode cX8_alone 148 = .ok (.iload 5, 2) := by decide +kernel
theorem dX8_alone_150 : decode cX8_alone 150 = .ok (.invokevirtual 277, 3) := by decide +kernel
theorem dX8_alone_153 : decode cX8_alone 153 = .ok (.ifCond .le 7, 3) := by decide +kernel
theorem dX8_alone_156 : decode cX8_alone 156 = .ok (.iload 7, 2) := by decide +kernel
theorem dX8_alone_158 : decode cX8_alone 158 = .ok (.istore 6, 2) := by decide +kernel
theorem dX8_alone_160 : decode cX8_alone 160 = .ok (.iinc 7 1, 3) := by decide +kernel
theorem dX8_alone_163 : decode cX8_alone 163 = .ok (.goto (-107), 3) := by decide +kernel
theorem dX8_alone_166 : decode cX8_alone 166 = .ok (.iconst 0, 1) := by decide +kernel
theorem dX8_alone_167 : decode cX8_alone 167 = .ok (.istore 7, 2) := by decide +kernel
theorem dX8_alone_169 : decode cX8_alone 169 = .ok (.iload 7, 2) := by decide +kernel
theorem dX8_alone_171 : decode cX8_alone 171 = .ok (.aload_n 0, 1) := by decide +kernel
theorem dX8_alone_172 : decode cX8_alone 172 = .ok (.getfield 70, 3) := by decide +kernel
theorem dX8_alone_175 : decode cX8_alone 175 = .ok (.iconst 1, 1) := by decide +kernel
theorem dX8_alone_176 : decode cX8_alone 176 = .ok (.iaload, 1) := by decide +kernel
theorem dX8_alone_177 : decode cX8_alone 177 = .ok (.if_icmp .ge 23, 3) := by decide +kernel
theorem dX8_alone_180 : decode cX8_alone 180 = .ok (.aload_n 0, 1) := by decide +kernel
theorem dX8_alone_181 : decode cX8_alone 181 = .ok (.getfield 25, 3) := by decide +kernel
theorem dX8_alone_184 : decode cX8_alone 184 = .ok (.iload 7, 2) := by decide +kernel
theorem dX8_alone_186 : decode cX8_alone 186 = .ok (.aload_n 0, 1) := by decide +kernel
theorem dX8_alone_187 : decode cX8_alone 187 = .ok (.getfield 94, 3) := by decide +kernel
theorem dX8_alone_190 : decode cX8_alone 190 = .ok (.iload 7, 2) := by decide +kernel
theorem dX8_alone_192 : decode cX8_alone 192 = .ok (.iaload, 1) := by decide +kernel
theorem dX8_alone_193 : decode cX8_alone 193 = .ok (.iastore, 1) := by decide +kernel
theorem dX8_alone_194 : decode cX8_alone 194 = .ok (.iinc 7 1, 3) := by decide +kernel
theorem dX8_alone_197 : decode cX8_alone 197 = .ok (.goto (-28), 3) := by decide +kernel

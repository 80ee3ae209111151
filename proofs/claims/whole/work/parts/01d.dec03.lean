theorem dX8_closes_112 : decode cX8_closes 112 = .ok (.iastore, 1) := by decide +kernel
theorem dX8_closes_113 : decode cX8_closes 113 = .ok (.aload_n 0, 1) := by decide +kernel
theorem dX8_closes_114 : decode cX8_closes 114 = .ok (.getfield 68, 3) := by decide +kernel
theorem dX8_closes_117 : decode cX8_closes 117 = .ok (.iload_n 1, 1) := by decide +kernel
theorem dX8_closes_118 : decode cX8_closes 118 = .ok (.dup2, 1) := by decide +kernel
theorem dX8_closes_119 : decode cX8_closes 119 = .ok (.iaload, 1) := by decide +kernel
theorem dX8_closes_120 : decode cX8_closes 120 = .ok (.iconst 1, 1) := by decide +kernel
theorem dX8_closes_121 : decode cX8_closes 121 = .ok (.iadd, 1) := by decide +kernel
theorem dX8_closes_122 : decode cX8_closes 122 = .ok (.iastore, 1) := by decide +kernel
theorem dX8_closes_123 : decode cX8_closes 123 = .ok (.aload_n 0, 1) := by decide +kernel
theorem dX8_closes_124 : decode cX8_closes 124 = .ok (.getfield 104, 3) := by decide +kernel
theorem dX8_closes_127 : decode cX8_closes 127 = .ok (.iconst 0, 1) := by decide +kernel
theorem dX8_closes_128 : decode cX8_closes 128 = .ok (.dup2, 1) := by decide +kernel
theorem dX8_closes_129 : decode cX8_closes 129 = .ok (.iaload, 1) := by decide +kernel
theorem dX8_closes_130 : decode cX8_closes 130 = .ok (.iconst 1, 1) := by decide +kernel
theorem dX8_closes_131 : decode cX8_closes 131 = .ok (.iadd, 1) := by decide +kernel
theorem dX8_closes_132 : decode cX8_closes 132 = .ok (.iastore, 1) := by decide +kernel
theorem dX8_closes_133 : decode cX8_closes 133 = .ok (.aload_n 0, 1) := by decide +kernel
theorem dX8_closes_134 : decode cX8_closes 134 = .ok (.iconst (-1), 1) := by decide +kernel
theorem dX8_closes_135 : decode cX8_closes 135 = .ok (.invokevirtual 197, 3) := by decide +kernel
theorem dX8_closes_138 : decode cX8_closes 138 = .ok (.istore_n 3, 1) := by decide +kernel
theorem dX8_closes_139 : decode cX8_closes 139 = .ok (.aload_n 0, 1) := by decide +kernel
theorem dX8_closes_140 : decode cX8_closes 140 = .ok (.getfield 38, 3) := by decide +kernel
theorem dX8_closes_143 : decode cX8_closes 143 = .ok (.iload_n 3, 1) := by decide +kernel
theorem dX8_closes_144 : decode cX8_closes 144 = .ok (.dup2, 1) := by decide +kernel
theorem dX8_closes_145 : decode cX8_closes 145 = .ok (.iaload, 1) := by decide +kernel
theorem dX8_closes_146 : decode cX8_closes 146 = .ok (.iconst 1, 1) := by decide +kernel
theorem dX8_closes_147 : decode cX8_closes 147 = .ok (.iadd, 1) := by decide +kernel
theorem dX8_closes_148 : decode cX8_closes 148 = .ok (.iastore, 1) := by decide +kernel
theorem dX8_closes_149 : decode cX8_closes 149 = .ok (.aload_n 0, 1) := by decide +kernel
theorem dX8_closes_150 : decode cX8_closes 150 = .ok (.iload_n 1, 1) := by decide +kernel
theorem dX8_closes_151 : decode cX8_closes 151 = .ok (.aload_n 0, 1) := by decide +kernel
theorem dX8_closes_152 : decode cX8_closes 152 = .ok (.getfield 101, 3) := by decide +kernel
theorem dX8_closes_155 : decode cX8_closes 155 = .ok (.iload_n 3, 1) := by decide +kernel
theorem dX8_closes_156 : decode cX8_closes 156 = .ok (.iaload, 1) := by decide +kernel
theorem dX8_closes_157 : decode cX8_closes 157 = .ok (.invokevirtual 212, 3) := by decide +kernel
theorem dX8_closes_160 : decode cX8_closes 160 = .ok (.aload_n 0, 1) := by decide +kernel
theorem dX8_closes_161 : decode cX8_closes 161 = .ok (.getfield 62, 3) := by decide +kernel
theorem dX8_closes_164 : decode cX8_closes 164 = .ok (.iload_n 1, 1) := by decide +kernel
theorem dX8_closes_165 : decode cX8_closes 165 = .ok (.iaload, 1) := by decide +kernel
theorem dX8_closes_166 : decode cX8_closes 166 = .ok (.iconst 4, 1) := by decide +kernel
theorem dX8_closes_167 : decode cX8_closes 167 = .ok (.if_icmp .ne 8, 3) := by decide +kernel
theorem dX8_closes_170 : decode cX8_closes 170 = .ok (.aload_n 0, 1) := by decide +kernel
theorem dX8_closes_171 : decode cX8_closes 171 = .ok (.iload_n 1, 1) := by decide +kernel
theorem dX8_closes_172 : decode cX8_closes 172 = .ok (.invokevirtual 216, 3) := by decide +kernel
theorem dX8_closes_175 : decode cX8_closes 175 = .ok (.iconst 1, 1) := by decide +kernel
theorem dX8_closes_176 : decode cX8_closes 176 = .ok (.ireturn, 1) := by decide +kernel
theorem dX8_oneTick_0 : decode cX8_oneTick 0 = .ok (.aload_n 0, 1) := by decide +kernel
theorem dX8_oneTick_1 : decode cX8_oneTick 1 = .ok (.dup, 1) := by decide +kernel
theorem dX8_oneTick_2 : decode cX8_oneTick 2 = .ok (.getfield 114, 3) := by decide +kernel
theorem dX8_oneTick_5 : decode cX8_oneTick 5 = .ok (.iconst 1, 1) := by decide +kernel
theorem dX8_oneTick_6 : decode cX8_oneTick 6 = .ok (.iadd, 1) := by decide +kernel
theorem dX8_oneTick_7 : decode cX8_oneTick 7 = .ok (.putfield 114, 3) := by decide +kernel
theorem dX8_oneTick_10 : decode cX8_oneTick 10 = .ok (.aload_n 0, 1) := by decide +kernel
theorem dX8_oneTick_11 : decode cX8_oneTick 11 = .ok (.getfield 114, 3) := by decide +kernel
theorem dX8_oneTick_14 : decode cX8_oneTick 14 = .ok (.bipush 60, 2) := by decide +kernel
theorem dX8_oneTick_16 : decode cX8_oneTick 16 = .ok (.irem, 1) := by decide +kernel
theorem dX8_oneTick_17 : decode cX8_oneTick 17 = .ok (.iconst 1, 1) := by decide +kernel
theorem dX8_oneTick_18 : decode cX8_oneTick 18 = .ok (.if_icmp .ne 23, 3) := by decide +kernel
theorem dX8_oneTick_21 : decode cX8_oneTick 21 = .ok (.iconst 0, 1) := by decide +kernel
theorem dX8_oneTick_22 : decode cX8_oneTick 22 = .ok (.istore_n 1, 1) := by decide +kernel
theorem dX8_oneTick_23 : decode cX8_oneTick 23 = .ok (.iload_n 1, 1) := by decide +kernel
theorem dX8_oneTick_24 : decode cX8_oneTick 24 = .ok (.iconst 4, 1) := by decide +kernel
theorem dX8_oneTick_25 : decode cX8_oneTick 25 = .ok (.if_icmp .ge 16, 3) := by decide +kernel
theorem dX8_oneTick_28 : decode cX8_oneTick 28 = .ok (.aload_n 0, 1) := by decide +kernel
theorem dX8_oneTick_29 : decode cX8_oneTick 29 = .ok (.getfield 29, 3) := by decide +kernel
theorem dX8_oneTick_32 : decode cX8_oneTick 32 = .ok (.iload_n 1, 1) := by decide +kernel
theorem dX8_oneTick_33 : decode cX8_oneTick 33 = .ok (.iconst 0, 1) := by decide +kernel
theorem dX8_oneTick_34 : decode cX8_oneTick 34 = .ok (.iastore, 1) := by decide +kernel
theorem dX8_oneTick_35 : decode cX8_oneTick 35 = .ok (.iinc 1 1, 3) := by decide +kernel
theorem dX8_oneTick_38 : decode cX8_oneTick 38 = .ok (.goto (-15), 3) := by decide +kernel
theorem dX8_oneTick_41 : decode cX8_oneTick 41 = .ok (.aload_n 0, 1) := by decide +kernel
theorem dX8_oneTick_42 : decode cX8_oneTick 42 = .ok (.invokevirtual 219, 3) := by decide +kernel
theorem dX8_oneTick_45 : decode cX8_oneTick 45 = .ok (.iconst 0, 1) := by decide +kernel
theorem dX8_oneTick_46 : decode cX8_oneTick 46 = .ok (.istore_n 1, 1) := by decide +kernel
theorem dX8_oneTick_47 : decode cX8_oneTick 47 = .ok (.aload_n 0, 1) := by decide +kernel
theorem dX8_oneTick_48 : decode cX8_oneTick 48 = .ok (.getfield 120, 3) := by decide +kernel
theorem dX8_oneTick_51 : decode cX8_oneTick 51 = .ok (.ifCond .le 35, 3) := by decide +kernel
theorem dX8_oneTick_54 : decode cX8_oneTick 54 = .ok (.aload_n 0, 1) := by decide +kernel
theorem dX8_oneTick_55 : decode cX8_oneTick 55 = .ok (.getfield 95, 3) := by decide +kernel
theorem dX8_oneTick_58 : decode cX8_oneTick 58 = .ok (.iconst 0, 1) := by decide +kernel
theorem dX8_oneTick_59 : decode cX8_oneTick 59 = .ok (.iaload, 1) := by decide +kernel
theorem dX8_oneTick_60 : decode cX8_oneTick 60 = .ok (.aload_n 0, 1) := by decide +kernel
theorem dX8_oneTick_61 : decode cX8_oneTick 61 = .ok (.getfield 20, 3) := by decide +kernel
theorem dX8_oneTick_64 : decode cX8_oneTick 64 = .ok (.iadd, 1) := by decide +kernel
theorem dX8_oneTick_65 : decode cX8_oneTick 65 = .ok (.aload_n 0, 1) := by decide +kernel
theorem dX8_oneTick_66 : decode cX8_oneTick 66 = .ok (.getfield 114, 3) := by decide +kernel
theorem dX8_oneTick_69 : decode cX8_oneTick 69 = .ok (.if_icmp .gt 17, 3) := by decide +kernel
theorem dX8_oneTick_72 : decode cX8_oneTick 72 = .ok (.iload_n 1, 1) := by decide +kernel
theorem dX8_oneTick_73 : decode cX8_oneTick 73 = .ok (.aload_n 0, 1) := by decide +kernel
theorem dX8_oneTick_74 : decode cX8_oneTick 74 = .ok (.invokevirtual 222, 3) := by decide +kernel
theorem dX8_oneTick_77 : decode cX8_oneTick 77 = .ok (.iadd, 1) := by decide +kernel
theorem dX8_oneTick_78 : decode cX8_oneTick 78 = .ok (.istore_n 1, 1) := by decide +kernel
theorem dX8_oneTick_79 : decode cX8_oneTick 79 = .ok (.aload_n 0, 1) := by decide +kernel
theorem dX8_oneTick_80 : decode cX8_oneTick 80 = .ok (.invokevirtual 225, 3) := by decide +kernel
theorem dX8_oneTick_83 : decode cX8_oneTick 83 = .ok (.goto (-36), 3) := by decide +kernel
theorem dX8_oneTick_86 : decode cX8_oneTick 86 = .ok (.iload_n 1, 1) := by decide +kernel
theorem dX8_oneTick_87 : decode cX8_oneTick 87 = .ok (.ireturn, 1) := by decide +kernel
theorem dX8_goBy_0 : decode cX8_goBy 0 = .ok (.iconst 0, 1) := by decide +kernel
theorem dX8_goBy_1 : decode cX8_goBy 1 = .ok (.istore_n 2, 1) := by decide +kernel
theorem dX8_goBy_2 : decode cX8_goBy 2 = .ok (.iconst 0, 1) := by decide +kernel
theorem dX8_goBy_3 : decode cX8_goBy 3 = .ok (.istore_n 3, 1) := by decide +kernel
theorem dX8_goBy_4 : decode cX8_goBy 4 = .ok (.iload_n 3, 1) := by decide +kernel
theorem dX8_goBy_5 : decode cX8_goBy 5 = .ok (.iload_n 1, 1) := by decide +kernel
theorem dX8_goBy_6 : decode cX8_goBy 6 = .ok (.if_icmp .ge 16, 3) := by decide +kernel
theorem dX8_goBy_9 : decode cX8_goBy 9 = .ok (.iload_n 2, 1) := by decide +kernel
theorem dX8_goBy_10 : decode cX8_goBy 10 = .ok (.aload_n 0, 1) := by decide +kernel
theorem dX8_goBy_11 : decode cX8_goBy 11 = .ok (.invokevirtual 228, 3) := by decide +kernel
theorem dX8_goBy_14 : decode cX8_goBy 14 = .ok (.iadd, 1) := by decide +kernel
theorem dX8_goBy_15 : decode cX8_goBy 15 = .ok (.istore_n 2, 1) := by decide +kernel
theorem dX8_goBy_16 : decode cX8_goBy 16 = .ok (.iinc 3 1, 3) := by decide +kernel
theorem dX8_goBy_19 : decode cX8_goBy 19 = .ok (.goto (-15), 3) := by decide +kernel
theorem dX8_goBy_22 : decode cX8_goBy 22 = .ok (.iload_n 2, 1) := by decide +kernel
theorem dX8_goBy_23 : decode cX8_goBy 23 = .ok (.ireturn, 1) := by decide +kernel
theorem dX8_ticks_0 : decode cX8_ticks 0 = .ok (.iload_n 1, 1) := by decide +kernel
theorem dX8_ticks_1 : decode cX8_ticks 1 = .ok (.iconst 1, 1) := by decide +kernel
theorem dX8_ticks_2 : decode cX8_ticks 2 = .ok (.bipush 99, 2) := by decide +kernel
theorem dX8_ticks_4 : decode cX8_ticks 4 = .ok (.invokestatic 110, 3) := by decide +kernel
theorem dX8_ticks_7 : decode cX8_ticks 7 = .ok (.ifCond .eq 11, 3) := by decide +kernel
theorem dX8_ticks_10 : decode cX8_ticks 10 = .ok (.aload_n 0, 1) := by decide +kernel
theorem dX8_ticks_11 : decode cX8_ticks 11 = .ok (.iload_n 1, 1) := by decide +kernel
theorem dX8_ticks_12 : decode cX8_ticks 12 = .ok (.invokevirtual 231, 3) := by decide +kernel
theorem dX8_ticks_15 : decode cX8_ticks 15 = .ok (.goto 7, 3) := by decide +kernel
theorem dX8_ticks_18 : decode cX8_ticks 18 = .ok (.aload_n 0, 1) := by decide +kernel
theorem dX8_ticks_19 : decode cX8_ticks 19 = .ok (.invokevirtual 127, 3) := by decide +kernel
theorem dX8_ticks_22 : decode cX8_ticks 22 = .ok (.ireturn, 1) := by decide +kernel
theorem dX8_ofBy_0 : decode cX8_ofBy 0 = .ok (.iload_n 2, 1) := by decide +kernel
theorem dX8_ofBy_1 : decode cX8_ofBy 1 = .ok (.tableswitch 92 0 6 #[43, 50, 57, 64, 71, 78, 85], 43) := by decide +kernel
theorem dX8_ofBy_44 : decode cX8_ofBy 44 = .ok (.aload_n 0, 1) := by decide +kernel
theorem dX8_ofBy_45 : decode cX8_ofBy 45 = .ok (.getfield 44, 3) := by decide +kernel
theorem dX8_ofBy_48 : decode cX8_ofBy 48 = .ok (.iload_n 1, 1) := by decide +kernel
theorem dX8_ofBy_49 : decode cX8_ofBy 49 = .ok (.iaload, 1) := by decide +kernel
theorem dX8_ofBy_50 : decode cX8_ofBy 50 = .ok (.ireturn, 1) := by decide +kernel
theorem dX8_ofBy_51 : decode cX8_ofBy 51 = .ok (.aload_n 0, 1) := by decide +kernel
theorem dX8_ofBy_52 : decode cX8_ofBy 52 = .ok (.getfield 47, 3) := by decide +kernel
theorem dX8_ofBy_55 : decode cX8_ofBy 55 = .ok (.iload_n 1, 1) := by decide +kernel
theorem dX8_ofBy_56 : decode cX8_ofBy 56 = .ok (.iaload, 1) := by decide +kernel
theorem dX8_ofBy_57 : decode cX8_ofBy 57 = .ok (.ireturn, 1) := by decide +kernel
theorem dX8_ofBy_58 : decode cX8_ofBy 58 = .ok (.aload_n 0, 1) := by decide +kernel
theorem dX8_ofBy_59 : decode cX8_ofBy 59 = .ok (.getfield 50, 3) := by decide +kernel
theorem dX8_ofBy_62 : decode cX8_ofBy 62 = .ok (.iload_n 1, 1) := by decide +kernel
theorem dX8_ofBy_63 : decode cX8_ofBy 63 = .ok (.iaload, 1) := by decide +kernel
theorem dX8_ofBy_64 : decode cX8_ofBy 64 = .ok (.ireturn, 1) := by decide +kernel
theorem dX8_ofBy_65 : decode cX8_ofBy 65 = .ok (.aload_n 0, 1) := by decide +kernel
theorem dX8_ofBy_66 : decode cX8_ofBy 66 = .ok (.getfield 53, 3) := by decide +kernel
theorem dX8_ofBy_69 : decode cX8_ofBy 69 = .ok (.iload_n 1, 1) := by decide +kernel
theorem dX8_ofBy_70 : decode cX8_ofBy 70 = .ok (.iaload, 1) := by decide +kernel
theorem dX8_ofBy_71 : decode cX8_ofBy 71 = .ok (.ireturn, 1) := by decide +kernel
theorem dX8_ofBy_72 : decode cX8_ofBy 72 = .ok (.aload_n 0, 1) := by decide +kernel
theorem dX8_ofBy_73 : decode cX8_ofBy 73 = .ok (.getfield 59, 3) := by decide +kernel
theorem dX8_ofBy_76 : decode cX8_ofBy 76 = .ok (.iload_n 1, 1) := by decide +kernel
theorem dX8_ofBy_77 : decode cX8_ofBy 77 = .ok (.iaload, 1) := by decide +kernel
theorem dX8_ofBy_78 : decode cX8_ofBy 78 = .ok (.ireturn, 1) := by decide +kernel
theorem dX8_ofBy_79 : decode cX8_ofBy 79 = .ok (.aload_n 0, 1) := by decide +kernel
theorem dX8_ofBy_80 : decode cX8_ofBy 80 = .ok (.getfield 62, 3) := by decide +kernel
theorem dX8_ofBy_83 : decode cX8_ofBy 83 = .ok (.iload_n 1, 1) := by decide +kernel
theorem dX8_ofBy_84 : decode cX8_ofBy 84 = .ok (.iaload, 1) := by decide +kernel
theorem dX8_ofBy_85 : decode cX8_ofBy 85 = .ok (.ireturn, 1) := by decide +kernel
theorem dX8_ofBy_86 : decode cX8_ofBy 86 = .ok (.aload_n 0, 1) := by decide +kernel
theorem dX8_ofBy_87 : decode cX8_ofBy 87 = .ok (.getfield 68, 3) := by decide +kernel
theorem dX8_ofBy_90 : decode cX8_ofBy 90 = .ok (.iload_n 1, 1) := by decide +kernel
theorem dX8_ofBy_91 : decode cX8_ofBy 91 = .ok (.iaload, 1) := by decide +kernel
theorem dX8_ofBy_92 : decode cX8_ofBy 92 = .ok (.ireturn, 1) := by decide +kernel
theorem dX8_ofBy_93 : decode cX8_ofBy 93 = .ok (.aload_n 0, 1) := by decide +kernel
theorem dX8_ofBy_94 : decode cX8_ofBy 94 = .ok (.getfield 71, 3) := by decide +kernel
theorem dX8_ofBy_97 : decode cX8_ofBy 97 = .ok (.iload_n 1, 1) := by decide +kernel
theorem dX8_ofBy_98 : decode cX8_ofBy 98 = .ok (.iaload, 1) := by decide +kernel
theorem dX8_ofBy_99 : decode cX8_ofBy 99 = .ok (.ireturn, 1) := by decide +kernel
theorem dX8_of_0 : decode cX8_of 0 = .ok (.aload_n 0, 1) := by decide +kernel
theorem dX8_of_1 : decode cX8_of 1 = .ok (.iload_n 1, 1) := by decide +kernel
theorem dX8_of_2 : decode cX8_of 2 = .ok (.invokevirtual 142, 3) := by decide +kernel
theorem dX8_of_5 : decode cX8_of 5 = .ok (.ifCond .eq 22, 3) := by decide +kernel
theorem dX8_of_8 : decode cX8_of 8 = .ok (.iload_n 2, 1) := by decide +kernel
theorem dX8_of_9 : decode cX8_of 9 = .ok (.iconst 0, 1) := by decide +kernel
theorem dX8_of_10 : decode cX8_of 10 = .ok (.bipush 7, 2) := by decide +kernel
theorem dX8_of_12 : decode cX8_of 12 = .ok (.invokestatic 110, 3) := by decide +kernel
theorem dX8_of_15 : decode cX8_of 15 = .ok (.ifCond .eq 12, 3) := by decide +kernel
theorem dX8_of_18 : decode cX8_of 18 = .ok (.aload_n 0, 1) := by decide +kernel
theorem dX8_of_19 : decode cX8_of 19 = .ok (.iload_n 1, 1) := by decide +kernel
theorem dX8_of_20 : decode cX8_of 20 = .ok (.iload_n 2, 1) := by decide +kernel
theorem dX8_of_21 : decode cX8_of 21 = .ok (.invokevirtual 234, 3) := by decide +kernel
theorem dX8_of_24 : decode cX8_of 24 = .ok (.goto 7, 3) := by decide +kernel
theorem dX8_of_27 : decode cX8_of 27 = .ok (.aload_n 0, 1) := by decide +kernel
theorem dX8_of_28 : decode cX8_of 28 = .ok (.invokevirtual 127, 3) := by decide +kernel
theorem dX8_of_31 : decode cX8_of 31 = .ok (.ireturn, 1) := by decide +kernel
theorem dX8_margin_0 : decode cX8_margin 0 = .ok (.aload_n 0, 1) := by decide +kernel
theorem dX8_margin_1 : decode cX8_margin 1 = .ok (.iload_n 1, 1) := by decide +kernel
theorem dX8_margin_2 : decode cX8_margin 2 = .ok (.invokevirtual 142, 3) := by decide +kernel
theorem dX8_margin_5 : decode cX8_margin 5 = .ok (.ifCond .eq 7, 3) := by decide +kernel
theorem dX8_margin_8 : decode cX8_margin 8 = .ok (.iload_n 2, 1) := by decide +kernel
theorem dX8_margin_9 : decode cX8_margin 9 = .ok (.ifCond .ge 8, 3) := by decide +kernel
theorem dX8_margin_12 : decode cX8_margin 12 = .ok (.aload_n 0, 1) := by decide +kernel
theorem dX8_margin_13 : decode cX8_margin 13 = .ok (.invokevirtual 127, 3) := by decide +kernel
theorem dX8_margin_16 : decode cX8_margin 16 = .ok (.ireturn, 1) := by decide +kernel
theorem dX8_margin_17 : decode cX8_margin 17 = .ok (.iload_n 2, 1) := by decide +kernel
theorem dX8_margin_18 : decode cX8_margin 18 = .ok (.aload_n 0, 1) := by decide +kernel
theorem dX8_margin_19 : decode cX8_margin 19 = .ok (.getfield 62, 3) := by decide +kernel
theorem dX8_margin_22 : decode cX8_margin 22 = .ok (.iload_n 1, 1) := by decide +kernel
theorem dX8_margin_23 : decode cX8_margin 23 = .ok (.iaload, 1) := by decide +kernel
theorem dX8_margin_24 : decode cX8_margin 24 = .ok (.if_icmp .ge 16, 3) := by decide +kernel
theorem dX8_margin_27 : decode cX8_margin 27 = .ok (.aload_n 0, 1) := by decide +kernel
theorem dX8_margin_28 : decode cX8_margin 28 = .ok (.getfield 65, 3) := by decide +kernel
theorem dX8_margin_31 : decode cX8_margin 31 = .ok (.iconst 4, 1) := by decide +kernel
theorem dX8_margin_32 : decode cX8_margin 32 = .ok (.iload_n 1, 1) := by decide +kernel
theorem dX8_margin_33 : decode cX8_margin 33 = .ok (.imul, 1) := by decide +kernel
theorem dX8_margin_34 : decode cX8_margin 34 = .ok (.iload_n 2, 1) := by decide +kernel
theorem dX8_margin_35 : decode cX8_margin 35 = .ok (.iadd, 1) := by decide +kernel
theorem dX8_margin_36 : decode cX8_margin 36 = .ok (.iaload, 1) := by decide +kernel
theorem dX8_margin_37 : decode cX8_margin 37 = .ok (.goto 6, 3) := by decide +kernel
theorem dX8_margin_40 : decode cX8_margin 40 = .ok (.sipush (-1000), 3) := by decide +kernel
theorem dX8_margin_43 : decode cX8_margin 43 = .ok (.ireturn, 1) := by decide +kernel
theorem dX8_hears_0 : decode cX8_hears 0 = .ok (.aload_n 0, 1) := by decide +kernel
theorem dX8_hears_1 : decode cX8_hears 1 = .ok (.iload_n 1, 1) := by decide +kernel
theorem dX8_hears_2 : decode cX8_hears 2 = .ok (.invokevirtual 142, 3) := by decide +kernel
theorem dX8_hears_5 : decode cX8_hears 5 = .ok (.ifCond .eq 11, 3) := by decide +kernel
theorem dX8_hears_8 : decode cX8_hears 8 = .ok (.aload_n 0, 1) := by decide +kernel
theorem dX8_hears_9 : decode cX8_hears 9 = .ok (.iload_n 2, 1) := by decide +kernel
theorem dX8_hears_10 : decode cX8_hears 10 = .ok (.invokevirtual 134, 3) := by decide +kernel
theorem dX8_hears_13 : decode cX8_hears 13 = .ok (.ifCond .ne 17, 3) := by decide +kernel
theorem dX8_hears_16 : decode cX8_hears 16 = .ok (.aload_n 0, 1) := by decide +kernel
theorem dX8_hears_17 : decode cX8_hears 17 = .ok (.getfield 7, 3) := by decide +kernel
theorem dX8_hears_20 : decode cX8_hears 20 = .ok (.iconst 0, 1) := by decide +kernel
theorem dX8_hears_21 : decode cX8_hears 21 = .ok (.dup2, 1) := by decide +kernel
theorem dX8_hears_22 : decode cX8_hears 22 = .ok (.iaload, 1) := by decide +kernel
theorem dX8_hears_23 : decode cX8_hears 23 = .ok (.iconst 1, 1) := by decide +kernel
theorem dX8_hears_24 : decode cX8_hears 24 = .ok (.iadd, 1) := by decide +kernel
theorem dX8_hears_25 : decode cX8_hears 25 = .ok (.iastore, 1) := by decide +kernel
theorem dX8_hears_26 : decode cX8_hears 26 = .ok (.sipush (-2000), 3) := by decide +kernel
theorem dX8_hears_29 : decode cX8_hears 29 = .ok (.ireturn, 1) := by decide +kernel
theorem dX8_hears_30 : decode cX8_hears 30 = .ok (.aload_n 0, 1) := by decide +kernel
theorem dX8_hears_31 : decode cX8_hears 31 = .ok (.iload_n 1, 1) := by decide +kernel
theorem dX8_hears_32 : decode cX8_hears 32 = .ok (.iload_n 2, 1) := by decide +kernel
theorem dX8_hears_33 : decode cX8_hears 33 = .ok (.invokevirtual 160, 3) := by decide +kernel
theorem dX8_hears_36 : decode cX8_hears 36 = .ok (.ireturn, 1) := by decide +kernel
theorem dX8_atBy_0 : decode cX8_atBy 0 = .ok (.iload_n 2, 1) := by decide +kernel
theorem dX8_atBy_1 : decode cX8_atBy 1 = .ok (.ifCond .ne 12, 3) := by decide +kernel
theorem dX8_atBy_4 : decode cX8_atBy 4 = .ok (.aload_n 0, 1) := by decide +kernel
theorem dX8_atBy_5 : decode cX8_atBy 5 = .ok (.getfield 32, 3) := by decide +kernel
theorem dX8_atBy_8 : decode cX8_atBy 8 = .ok (.iload_n 1, 1) := by decide +kernel
theorem dX8_atBy_9 : decode cX8_atBy 9 = .ok (.iaload, 1) := by decide +kernel
theorem dX8_atBy_10 : decode cX8_atBy 10 = .ok (.goto 44, 3) := by decide +kernel
theorem dX8_atBy_13 : decode cX8_atBy 13 = .ok (.iload_n 2, 1) := by decide +kernel
theorem dX8_atBy_14 : decode cX8_atBy 14 = .ok (.iconst 1, 1) := by decide +kernel
theorem dX8_atBy_15 : decode cX8_atBy 15 = .ok (.if_icmp .ne 12, 3) := by decide +kernel
theorem dX8_atBy_18 : decode cX8_atBy 18 = .ok (.aload_n 0, 1) := by decide +kernel
theorem dX8_atBy_19 : decode cX8_atBy 19 = .ok (.getfield 35, 3) := by decide +kernel
theorem dX8_atBy_22 : decode cX8_atBy 22 = .ok (.iload_n 1, 1) := by decide +kernel
theorem dX8_atBy_23 : decode cX8_atBy 23 = .ok (.iaload, 1) := by decide +kernel
theorem dX8_atBy_24 : decode cX8_atBy 24 = .ok (.goto 30, 3) := by decide +kernel
theorem dX8_atBy_27 : decode cX8_atBy 27 = .ok (.iload_n 2, 1) := by decide +kernel
theorem dX8_atBy_28 : decode cX8_atBy 28 = .ok (.iconst 2, 1) := by decide +kernel
theorem dX8_atBy_29 : decode cX8_atBy 29 = .ok (.if_icmp .ne 19, 3) := by decide +kernel
theorem dX8_atBy_32 : decode cX8_atBy 32 = .ok (.aload_n 0, 1) := by decide +kernel
theorem dX8_atBy_33 : decode cX8_atBy 33 = .ok (.getfield 26, 3) := by decide +kernel
theorem dX8_atBy_36 : decode cX8_atBy 36 = .ok (.iload_n 1, 1) := by decide +kernel
theorem dX8_atBy_37 : decode cX8_atBy 37 = .ok (.iaload, 1) := by decide +kernel
theorem dX8_atBy_38 : decode cX8_atBy 38 = .ok (.aload_n 0, 1) := by decide +kernel
theorem dX8_atBy_39 : decode cX8_atBy 39 = .ok (.getfield 29, 3) := by decide +kernel
theorem dX8_atBy_42 : decode cX8_atBy 42 = .ok (.iload_n 1, 1) := by decide +kernel
theorem dX8_atBy_43 : decode cX8_atBy 43 = .ok (.iaload, 1) := by decide +kernel
theorem dX8_atBy_44 : decode cX8_atBy 44 = .ok (.isub, 1) := by decide +kernel
theorem dX8_atBy_45 : decode cX8_atBy 45 = .ok (.goto 9, 3) := by decide +kernel
theorem dX8_atBy_48 : decode cX8_atBy 48 = .ok (.aload_n 0, 1) := by decide +kernel
theorem dX8_atBy_49 : decode cX8_atBy 49 = .ok (.getfield 38, 3) := by decide +kernel
theorem dX8_atBy_52 : decode cX8_atBy 52 = .ok (.iload_n 1, 1) := by decide +kernel
theorem dX8_atBy_53 : decode cX8_atBy 53 = .ok (.iaload, 1) := by decide +kernel
theorem dX8_atBy_54 : decode cX8_atBy 54 = .ok (.ireturn, 1) := by decide +kernel
theorem dX8_at_0 : decode cX8_at 0 = .ok (.aload_n 0, 1) := by decide +kernel
theorem dX8_at_1 : decode cX8_at 1 = .ok (.iload_n 1, 1) := by decide +kernel
theorem dX8_at_2 : decode cX8_at 2 = .ok (.invokevirtual 134, 3) := by decide +kernel
theorem dX8_at_5 : decode cX8_at 5 = .ok (.ifCond .eq 21, 3) := by decide +kernel
theorem dX8_at_8 : decode cX8_at 8 = .ok (.iload_n 2, 1) := by decide +kernel
theorem dX8_at_9 : decode cX8_at 9 = .ok (.iconst 0, 1) := by decide +kernel
theorem dX8_at_10 : decode cX8_at 10 = .ok (.iconst 3, 1) := by decide +kernel
theorem dX8_at_11 : decode cX8_at 11 = .ok (.invokestatic 110, 3) := by decide +kernel
theorem dX8_at_14 : decode cX8_at 14 = .ok (.ifCond .eq 12, 3) := by decide +kernel
theorem dX8_at_17 : decode cX8_at 17 = .ok (.aload_n 0, 1) := by decide +kernel
theorem dX8_at_18 : decode cX8_at 18 = .ok (.iload_n 1, 1) := by decide +kernel
theorem dX8_at_19 : decode cX8_at 19 = .ok (.iload_n 2, 1) := by decide +kernel
theorem dX8_at_20 : decode cX8_at 20 = .ok (.invokevirtual 237, 3) := by decide +kernel
theorem dX8_at_23 : decode cX8_at 23 = .ok (.goto 7, 3) := by decide +kernel
theorem dX8_at_26 : decode cX8_at 26 = .ok (.aload_n 0, 1) := by decide +kernel
theorem dX8_at_27 : decode cX8_at 27 = .ok (.invokevirtual 127, 3) := by decide +kernel
theorem dX8_at_30 : decode cX8_at 30 = .ok (.ireturn, 1) := by decide +kernel
theorem dX8_allBy_0 : decode cX8_allBy 0 = .ok (.iload_n 1, 1) := by decide +kernel
theorem dX8_allBy_1 : decode cX8_allBy 1 = .ok (.ifCond .ne 10, 3) := by decide +kernel
theorem dX8_allBy_4 : decode cX8_allBy 4 = .ok (.aload_n 0, 1) := by decide +kernel
theorem dX8_allBy_5 : decode cX8_allBy 5 = .ok (.getfield 117, 3) := by decide +kernel
theorem dX8_allBy_8 : decode cX8_allBy 8 = .ok (.goto 36, 3) := by decide +kernel
theorem dX8_allBy_11 : decode cX8_allBy 11 = .ok (.iload_n 1, 1) := by decide +kernel
theorem dX8_allBy_12 : decode cX8_allBy 12 = .ok (.iconst 1, 1) := by decide +kernel
theorem dX8_allBy_13 : decode cX8_allBy 13 = .ok (.if_icmp .ne 10, 3) := by decide +kernel
theorem dX8_allBy_16 : decode cX8_allBy 16 = .ok (.aload_n 0, 1) := by decide +kernel
theorem dX8_allBy_17 : decode cX8_allBy 17 = .ok (.getfield 120, 3) := by decide +kernel
theorem dX8_allBy_20 : decode cX8_allBy 20 = .ok (.goto 24, 3) := by decide +kernel
theorem dX8_allBy_23 : decode cX8_allBy 23 = .ok (.iload_n 1, 1) := by decide +kernel
theorem dX8_allBy_24 : decode cX8_allBy 24 = .ok (.bipush 8, 2) := by decide +kernel
theorem dX8_allBy_26 : decode cX8_allBy 26 = .ok (.if_icmp .ne 10, 3) := by decide +kernel
theorem dX8_allBy_29 : decode cX8_allBy 29 = .ok (.aload_n 0, 1) := by decide +kernel
theorem dX8_allBy_30 : decode cX8_allBy 30 = .ok (.getfield 114, 3) := by decide +kernel
theorem dX8_allBy_33 : decode cX8_allBy 33 = .ok (.goto 11, 3) := by decide +kernel
theorem dX8_allBy_36 : decode cX8_allBy 36 = .ok (.aload_n 0, 1) := by decide +kernel
theorem dX8_allBy_37 : decode cX8_allBy 37 = .ok (.getfield 104, 3) := by decide +kernel
theorem dX8_allBy_40 : decode cX8_allBy 40 = .ok (.iload_n 1, 1) := by decide +kernel
theorem dX8_allBy_41 : decode cX8_allBy 41 = .ok (.iconst 2, 1) := by decide +kernel
theorem dX8_allBy_42 : decode cX8_allBy 42 = .ok (.isub, 1) := by decide +kernel
theorem dX8_allBy_43 : decode cX8_allBy 43 = .ok (.iaload, 1) := by decide +kernel
theorem dX8_allBy_44 : decode cX8_allBy 44 = .ok (.ireturn, 1) := by decide +kernel
theorem dX8_all_0 : decode cX8_all 0 = .ok (.iload_n 1, 1) := by decide +kernel
theorem dX8_all_1 : decode cX8_all 1 = .ok (.iconst 0, 1) := by decide +kernel
theorem dX8_all_2 : decode cX8_all 2 = .ok (.bipush 8, 2) := by decide +kernel
theorem dX8_all_4 : decode cX8_all 4 = .ok (.invokestatic 110, 3) := by decide +kernel
theorem dX8_all_7 : decode cX8_all 7 = .ok (.ifCond .eq 11, 3) := by decide +kernel
theorem dX8_all_10 : decode cX8_all 10 = .ok (.aload_n 0, 1) := by decide +kernel
theorem dX8_all_11 : decode cX8_all 11 = .ok (.iload_n 1, 1) := by decide +kernel
theorem dX8_all_12 : decode cX8_all 12 = .ok (.invokevirtual 240, 3) := by decide +kernel
theorem dX8_all_15 : decode cX8_all 15 = .ok (.goto 7, 3) := by decide +kernel
theorem dX8_all_18 : decode cX8_all 18 = .ok (.aload_n 0, 1) := by decide +kernel
theorem dX8_all_19 : decode cX8_all 19 = .ok (.invokevirtual 127, 3) := by decide +kernel
theorem dX8_all_22 : decode cX8_all 22 = .ok (.ireturn, 1) := by decide +kernel
theorem dX8_window_0 : decode cX8_window 0 = .ok (.iload_n 1, 1) := by decide +kernel
theorem dX8_window_1 : decode cX8_window 1 = .ok (.ifCond .lt 12, 3) := by decide +kernel
theorem dX8_window_4 : decode cX8_window 4 = .ok (.iload_n 2, 1) := by decide +kernel
theorem dX8_window_5 : decode cX8_window 5 = .ok (.iconst 0, 1) := by decide +kernel
theorem dX8_window_6 : decode cX8_window 6 = .ok (.iconst 3, 1) := by decide +kernel
theorem dX8_window_7 : decode cX8_window 7 = .ok (.invokestatic 110, 3) := by decide +kernel
theorem dX8_window_10 : decode cX8_window 10 = .ok (.ifCond .ne 8, 3) := by decide +kernel
theorem dX8_window_13 : decode cX8_window 13 = .ok (.aload_n 0, 1) := by decide +kernel
theorem dX8_window_14 : decode cX8_window 14 = .ok (.invokevirtual 127, 3) := by decide +kernel
theorem dX8_window_17 : decode cX8_window 17 = .ok (.ireturn, 1) := by decide +kernel
theorem dX8_window_18 : decode cX8_window 18 = .ok (.iload_n 1, 1) := by decide +kernel
theorem dX8_window_19 : decode cX8_window 19 = .ok (.aload_n 0, 1) := by decide +kernel
theorem dX8_window_20 : decode cX8_window 20 = .ok (.getfield 120, 3) := by decide +kernel
theorem dX8_window_23 : decode cX8_window 23 = .ok (.if_icmp .lt 5, 3) := by decide +kernel
theorem dX8_window_26 : decode cX8_window 26 = .ok (.iconst (-1), 1) := by decide +kernel
theorem dX8_window_27 : decode cX8_window 27 = .ok (.ireturn, 1) := by decide +kernel
theorem dX8_window_28 : decode cX8_window 28 = .ok (.iload_n 2, 1) := by decide +kernel
theorem dX8_window_29 : decode cX8_window 29 = .ok (.ifCond .ne 12, 3) := by decide +kernel
theorem dX8_window_32 : decode cX8_window 32 = .ok (.aload_n 0, 1) := by decide +kernel
theorem dX8_window_33 : decode cX8_window 33 = .ok (.getfield 89, 3) := by decide +kernel
theorem dX8_window_36 : decode cX8_window 36 = .ok (.iload_n 1, 1) := by decide +kernel
theorem dX8_window_37 : decode cX8_window 37 = .ok (.iaload, 1) := by decide +kernel
theorem dX8_window_38 : decode cX8_window 38 = .ok (.goto 47, 3) := by decide +kernel
theorem dX8_window_41 : decode cX8_window 41 = .ok (.iload_n 2, 1) := by decide +kernel
theorem dX8_window_42 : decode cX8_window 42 = .ok (.iconst 1, 1) := by decide +kernel
theorem dX8_window_43 : decode cX8_window 43 = .ok (.if_icmp .ne 12, 3) := by decide +kernel
theorem dX8_window_46 : decode cX8_window 46 = .ok (.aload_n 0, 1) := by decide +kernel
theorem dX8_window_47 : decode cX8_window 47 = .ok (.getfield 92, 3) := by decide +kernel
theorem dX8_window_50 : decode cX8_window 50 = .ok (.iload_n 1, 1) := by decide +kernel
theorem dX8_window_51 : decode cX8_window 51 = .ok (.iaload, 1) := by decide +kernel
theorem dX8_window_52 : decode cX8_window 52 = .ok (.goto 33, 3) := by decide +kernel
theorem dX8_window_55 : decode cX8_window 55 = .ok (.iload_n 2, 1) := by decide +kernel
theorem dX8_window_56 : decode cX8_window 56 = .ok (.iconst 2, 1) := by decide +kernel
theorem dX8_window_57 : decode cX8_window 57 = .ok (.if_icmp .ne 12, 3) := by decide +kernel
theorem dX8_window_60 : decode cX8_window 60 = .ok (.aload_n 0, 1) := by decide +kernel
theorem dX8_window_61 : decode cX8_window 61 = .ok (.getfield 98, 3) := by decide +kernel
theorem dX8_window_64 : decode cX8_window 64 = .ok (.iload_n 1, 1) := by decide +kernel
theorem dX8_window_65 : decode cX8_window 65 = .ok (.iaload, 1) := by decide +kernel
theorem dX8_window_66 : decode cX8_window 66 = .ok (.goto 19, 3) := by decide +kernel
theorem dX8_window_69 : decode cX8_window 69 = .ok (.aload_n 0, 1) := by decide +kernel
theorem dX8_window_70 : decode cX8_window 70 = .ok (.getfield 95, 3) := by decide +kernel
theorem dX8_window_73 : decode cX8_window 73 = .ok (.iload_n 1, 1) := by decide +kernel
theorem dX8_window_74 : decode cX8_window 74 = .ok (.iaload, 1) := by decide +kernel
theorem dX8_window_75 : decode cX8_window 75 = .ok (.aload_n 0, 1) := by decide +kernel
theorem dX8_window_76 : decode cX8_window 76 = .ok (.getfield 20, 3) := by decide +kernel
theorem dX8_window_79 : decode cX8_window 79 = .ok (.iadd, 1) := by decide +kernel
theorem dX8_window_80 : decode cX8_window 80 = .ok (.aload_n 0, 1) := by decide +kernel
theorem dX8_window_81 : decode cX8_window 81 = .ok (.getfield 114, 3) := by decide +kernel
theorem dX8_window_84 : decode cX8_window 84 = .ok (.isub, 1) := by decide +kernel
theorem dX8_window_85 : decode cX8_window 85 = .ok (.ireturn, 1) := by decide +kernel
theorem dX8_copy_0 : decode cX8_copy 0 = .ok (.iload_n 1, 1) := by decide +kernel
theorem dX8_copy_1 : decode cX8_copy 1 = .ok (.ifCond .lt 12, 3) := by decide +kernel
theorem dX8_copy_4 : decode cX8_copy 4 = .ok (.iload_n 2, 1) := by decide +kernel
theorem dX8_copy_5 : decode cX8_copy 5 = .ok (.iconst 0, 1) := by decide +kernel
theorem dX8_copy_6 : decode cX8_copy 6 = .ok (.iconst 2, 1) := by decide +kernel
theorem dX8_copy_7 : decode cX8_copy 7 = .ok (.invokestatic 110, 3) := by decide +kernel
theorem dX8_copy_10 : decode cX8_copy 10 = .ok (.ifCond .ne 8, 3) := by decide +kernel
theorem dX8_copy_13 : decode cX8_copy 13 = .ok (.aload_n 0, 1) := by decide +kernel
theorem dX8_copy_14 : decode cX8_copy 14 = .ok (.invokevirtual 127, 3) := by decide +kernel
theorem dX8_copy_17 : decode cX8_copy 17 = .ok (.ireturn, 1) := by decide +kernel
theorem dX8_copy_18 : decode cX8_copy 18 = .ok (.iload_n 1, 1) := by decide +kernel
theorem dX8_copy_19 : decode cX8_copy 19 = .ok (.aload_n 0, 1) := by decide +kernel
theorem dX8_copy_20 : decode cX8_copy 20 = .ok (.getfield 117, 3) := by decide +kernel
theorem dX8_copy_23 : decode cX8_copy 23 = .ok (.if_icmp .lt 5, 3) := by decide +kernel
theorem dX8_copy_26 : decode cX8_copy 26 = .ok (.iconst (-1), 1) := by decide +kernel
theorem dX8_copy_27 : decode cX8_copy 27 = .ok (.ireturn, 1) := by decide +kernel
theorem dX8_copy_28 : decode cX8_copy 28 = .ok (.iload_n 2, 1) := by decide +kernel
theorem dX8_copy_29 : decode cX8_copy 29 = .ok (.ifCond .ne 12, 3) := by decide +kernel
theorem dX8_copy_32 : decode cX8_copy 32 = .ok (.aload_n 0, 1) := by decide +kernel
theorem dX8_copy_33 : decode cX8_copy 33 = .ok (.getfield 74, 3) := by decide +kernel
theorem dX8_copy_36 : decode cX8_copy 36 = .ok (.iload_n 1, 1) := by decide +kernel
theorem dX8_copy_37 : decode cX8_copy 37 = .ok (.iaload, 1) := by decide +kernel
theorem dX8_copy_38 : decode cX8_copy 38 = .ok (.goto 28, 3) := by decide +kernel
theorem dX8_copy_41 : decode cX8_copy 41 = .ok (.iload_n 2, 1) := by decide +kernel
theorem dX8_copy_42 : decode cX8_copy 42 = .ok (.iconst 1, 1) := by decide +kernel
theorem dX8_copy_43 : decode cX8_copy 43 = .ok (.if_icmp .ne 12, 3) := by decide +kernel
theorem dX8_copy_46 : decode cX8_copy 46 = .ok (.aload_n 0, 1) := by decide +kernel
theorem dX8_copy_47 : decode cX8_copy 47 = .ok (.getfield 77, 3) := by decide +kernel
theorem dX8_copy_50 : decode cX8_copy 50 = .ok (.iload_n 1, 1) := by decide +kernel
theorem dX8_copy_51 : decode cX8_copy 51 = .ok (.iaload, 1) := by decide +kernel
theorem dX8_copy_52 : decode cX8_copy 52 = .ok (.goto 14, 3) := by decide +kernel
theorem dX8_copy_55 : decode cX8_copy 55 = .ok (.aload_n 0, 1) := by decide +kernel
theorem dX8_copy_56 : decode cX8_copy 56 = .ok (.getfield 86, 3) := by decide +kernel
theorem dX8_copy_59 : decode cX8_copy 59 = .ok (.iload_n 1, 1) := by decide +kernel
theorem dX8_copy_60 : decode cX8_copy 60 = .ok (.iaload, 1) := by decide +kernel
theorem dX8_copy_61 : decode cX8_copy 61 = .ok (.aload_n 0, 1) := by decide +kernel
theorem dX8_copy_62 : decode cX8_copy 62 = .ok (.getfield 114, 3) := by decide +kernel
theorem dX8_copy_65 : decode cX8_copy 65 = .ok (.isub, 1) := by decide +kernel
theorem dX8_copy_66 : decode cX8_copy 66 = .ok (.ireturn, 1) := by decide +kernel
theorem dX8_type_0 : decode cX8_type 0 = .ok (.iload_n 1, 1) := by decide +kernel
theorem dX8_type_1 : decode cX8_type 1 = .ok (.iconst 0, 1) := by decide +kernel
theorem dX8_type_2 : decode cX8_type 2 = .ok (.bipush 127, 2) := by decide +kernel
theorem dX8_type_4 : decode cX8_type 4 = .ok (.invokestatic 110, 3) := by decide +kernel
theorem dX8_type_7 : decode cX8_type 7 = .ok (.ifCond .ne 8, 3) := by decide +kernel
theorem dX8_type_10 : decode cX8_type 10 = .ok (.aload_n 0, 1) := by decide +kernel
theorem dX8_type_11 : decode cX8_type 11 = .ok (.invokevirtual 127, 3) := by decide +kernel
theorem dX8_type_14 : decode cX8_type 14 = .ok (.ireturn, 1) := by decide +kernel
theorem dX8_type_15 : decode cX8_type 15 = .ok (.aload_n 0, 1) := by decide +kernel
theorem dX8_type_16 : decode cX8_type 16 = .ok (.getfield 243, 3) := by decide +kernel
theorem dX8_type_19 : decode cX8_type 19 = .ok (.bipush 120, 2) := by decide +kernel
theorem dX8_type_21 : decode cX8_type 21 = .ok (.if_icmp .ne 8, 3) := by decide +kernel
theorem dX8_type_24 : decode cX8_type 24 = .ok (.aload_n 0, 1) := by decide +kernel
theorem dX8_type_25 : decode cX8_type 25 = .ok (.invokevirtual 174, 3) := by decide +kernel
theorem dX8_type_28 : decode cX8_type 28 = .ok (.ireturn, 1) := by decide +kernel
theorem dX8_type_29 : decode cX8_type 29 = .ok (.aload_n 0, 1) := by decide +kernel
theorem dX8_type_30 : decode cX8_type 30 = .ok (.getfield 107, 3) := by decide +kernel
theorem dX8_type_33 : decode cX8_type 33 = .ok (.aload_n 0, 1) := by decide +kernel
theorem dX8_type_34 : decode cX8_type 34 = .ok (.getfield 243, 3) := by decide +kernel
theorem dX8_type_37 : decode cX8_type 37 = .ok (.iload_n 1, 1) := by decide +kernel
theorem dX8_type_38 : decode cX8_type 38 = .ok (.iastore, 1) := by decide +kernel
theorem dX8_type_39 : decode cX8_type 39 = .ok (.aload_n 0, 1) := by decide +kernel
theorem dX8_type_40 : decode cX8_type 40 = .ok (.dup, 1) := by decide +kernel
theorem dX8_type_41 : decode cX8_type 41 = .ok (.getfield 243, 3) := by decide +kernel
theorem dX8_type_44 : decode cX8_type 44 = .ok (.iconst 1, 1) := by decide +kernel
theorem dX8_type_45 : decode cX8_type 45 = .ok (.iadd, 1) := by decide +kernel
theorem dX8_type_46 : decode cX8_type 46 = .ok (.putfield 243, 3) := by decide +kernel
theorem dX8_type_49 : decode cX8_type 49 = .ok (.aload_n 0, 1) := by decide +kernel
theorem dX8_type_50 : decode cX8_type 50 = .ok (.getfield 243, 3) := by decide +kernel
theorem dX8_type_53 : decode cX8_type 53 = .ok (.ireturn, 1) := by decide +kernel
theorem dX8_clear_0 : decode cX8_clear 0 = .ok (.aload_n 0, 1) := by decide +kernel
theorem dX8_clear_1 : decode cX8_clear 1 = .ok (.getfield 243, 3) := by decide +kernel
theorem dX8_clear_4 : decode cX8_clear 4 = .ok (.istore_n 1, 1) := by decide +kernel
theorem dX8_clear_5 : decode cX8_clear 5 = .ok (.aload_n 0, 1) := by decide +kernel
theorem dX8_clear_6 : decode cX8_clear 6 = .ok (.iconst 0, 1) := by decide +kernel
theorem dX8_clear_7 : decode cX8_clear 7 = .ok (.putfield 243, 3) := by decide +kernel
theorem dX8_clear_10 : decode cX8_clear 10 = .ok (.iload_n 1, 1) := by decide +kernel
theorem dX8_clear_11 : decode cX8_clear 11 = .ok (.ireturn, 1) := by decide +kernel
theorem dX8_here_0 : decode cX8_here 0 = .ok (.aload_n 0, 1) := by decide +kernel
theorem dX8_here_1 : decode cX8_here 1 = .ok (.getfield 246, 3) := by decide +kernel
theorem dX8_here_4 : decode cX8_here 4 = .ok (.aload_n 0, 1) := by decide +kernel
theorem dX8_here_5 : decode cX8_here 5 = .ok (.getfield 243, 3) := by decide +kernel
theorem dX8_here_8 : decode cX8_here 8 = .ok (.if_icmp .ge 30, 3) := by decide +kernel
theorem dX8_here_11 : decode cX8_here 11 = .ok (.aload_n 0, 1) := by decide +kernel
theorem dX8_here_12 : decode cX8_here 12 = .ok (.getfield 107, 3) := by decide +kernel
theorem dX8_here_15 : decode cX8_here 15 = .ok (.aload_n 0, 1) := by decide +kernel
theorem dX8_here_16 : decode cX8_here 16 = .ok (.getfield 246, 3) := by decide +kernel
theorem dX8_here_19 : decode cX8_here 19 = .ok (.iaload, 1) := by decide +kernel
theorem dX8_here_20 : decode cX8_here 20 = .ok (.bipush 32, 2) := by decide +kernel
theorem dX8_here_22 : decode cX8_here 22 = .ok (.if_icmp .ne 16, 3) := by decide +kernel
theorem dX8_here_25 : decode cX8_here 25 = .ok (.aload_n 0, 1) := by decide +kernel
theorem dX8_here_26 : decode cX8_here 26 = .ok (.dup, 1) := by decide +kernel
theorem dX8_here_27 : decode cX8_here 27 = .ok (.getfield 246, 3) := by decide +kernel
theorem dX8_here_30 : decode cX8_here 30 = .ok (.iconst 1, 1) := by decide +kernel
theorem dX8_here_31 : decode cX8_here 31 = .ok (.iadd, 1) := by decide +kernel
theorem dX8_here_32 : decode cX8_here 32 = .ok (.putfield 246, 3) := by decide +kernel
theorem dX8_here_35 : decode cX8_here 35 = .ok (.goto (-35), 3) := by decide +kernel
theorem dX8_here_38 : decode cX8_here 38 = .ok (.aload_n 0, 1) := by decide +kernel
theorem dX8_here_39 : decode cX8_here 39 = .ok (.getfield 246, 3) := by decide +kernel
theorem dX8_here_42 : decode cX8_here 42 = .ok (.aload_n 0, 1) := by decide +kernel
theorem dX8_here_43 : decode cX8_here 43 = .ok (.getfield 243, 3) := by decide +kernel
theorem dX8_here_46 : decode cX8_here 46 = .ok (.if_icmp .ge 15, 3) := by decide +kernel
theorem dX8_here_49 : decode cX8_here 49 = .ok (.aload_n 0, 1) := by decide +kernel
theorem dX8_here_50 : decode cX8_here 50 = .ok (.getfield 107, 3) := by decide +kernel
theorem dX8_here_53 : decode cX8_here 53 = .ok (.aload_n 0, 1) := by decide +kernel
theorem dX8_here_54 : decode cX8_here 54 = .ok (.getfield 246, 3) := by decide +kernel
theorem dX8_here_57 : decode cX8_here 57 = .ok (.iaload, 1) := by decide +kernel
theorem dX8_here_58 : decode cX8_here 58 = .ok (.goto 4, 3) := by decide +kernel
theorem dX8_here_61 : decode cX8_here 61 = .ok (.iconst (-1), 1) := by decide +kernel
theorem dX8_here_62 : decode cX8_here 62 = .ok (.ireturn, 1) := by decide +kernel
theorem dX8_readsOne_0 : decode cX8_readsOne 0 = .ok (.aload_n 0, 1) := by decide +kernel
theorem dX8_readsOne_1 : decode cX8_readsOne 1 = .ok (.invokevirtual 249, 3) := by decide +kernel
theorem dX8_readsOne_4 : decode cX8_readsOne 4 = .ok (.bipush 48, 2) := by decide +kernel
theorem dX8_readsOne_6 : decode cX8_readsOne 6 = .ok (.isub, 1) := by decide +kernel
theorem dX8_readsOne_7 : decode cX8_readsOne 7 = .ok (.istore_n 2, 1) := by decide +kernel
theorem dX8_readsOne_8 : decode cX8_readsOne 8 = .ok (.iload_n 2, 1) := by decide +kernel
theorem dX8_readsOne_9 : decode cX8_readsOne 9 = .ok (.iconst 0, 1) := by decide +kernel
theorem dX8_readsOne_10 : decode cX8_readsOne 10 = .ok (.bipush 9, 2) := by decide +kernel
theorem dX8_readsOne_12 : decode cX8_readsOne 12 = .ok (.invokestatic 110, 3) := by decide +kernel
theorem dX8_readsOne_15 : decode cX8_readsOne 15 = .ok (.ifCond .eq 8, 3) := by decide +kernel
theorem dX8_readsOne_18 : decode cX8_readsOne 18 = .ok (.iload_n 2, 1) := by decide +kernel
theorem dX8_readsOne_19 : decode cX8_readsOne 19 = .ok (.iload_n 1, 1) := by decide +kernel
theorem dX8_readsOne_20 : decode cX8_readsOne 20 = .ok (.if_icmp .lt 5, 3) := by decide +kernel
theorem dX8_readsOne_23 : decode cX8_readsOne 23 = .ok (.iconst 0, 1) := by decide +kernel
theorem dX8_readsOne_24 : decode cX8_readsOne 24 = .ok (.ireturn, 1) := by decide +kernel
theorem dX8_readsOne_25 : decode cX8_readsOne 25 = .ok (.aload_n 0, 1) := by decide +kernel
theorem dX8_readsOne_26 : decode cX8_readsOne 26 = .ok (.dup, 1) := by decide +kernel
theorem dX8_readsOne_27 : decode cX8_readsOne 27 = .ok (.getfield 246, 3) := by decide +kernel
theorem dX8_readsOne_30 : decode cX8_readsOne 30 = .ok (.iconst 1, 1) := by decide +kernel
theorem dX8_readsOne_31 : decode cX8_readsOne 31 = .ok (.iadd, 1) := by decide +kernel
theorem dX8_readsOne_32 : decode cX8_readsOne 32 = .ok (.putfield 246, 3) := by decide +kernel
theorem dX8_readsOne_35 : decode cX8_readsOne 35 = .ok (.aload_n 0, 1) := by decide +kernel
theorem dX8_readsOne_36 : decode cX8_readsOne 36 = .ok (.iload_n 2, 1) := by decide +kernel
theorem dX8_readsOne_37 : decode cX8_readsOne 37 = .ok (.putfield 252, 3) := by decide +kernel
theorem dX8_readsOne_40 : decode cX8_readsOne 40 = .ok (.iconst 1, 1) := by decide +kernel
theorem dX8_readsOne_41 : decode cX8_readsOne 41 = .ok (.ireturn, 1) := by decide +kernel
theorem dX8_readsNumber_0 : decode cX8_readsNumber 0 = .ok (.aload_n 0, 1) := by decide +kernel
theorem dX8_readsNumber_1 : decode cX8_readsNumber 1 = .ok (.invokevirtual 249, 3) := by decide +kernel
theorem dX8_readsNumber_4 : decode cX8_readsNumber 4 = .ok (.bipush 48, 2) := by decide +kernel
theorem dX8_readsNumber_6 : decode cX8_readsNumber 6 = .ok (.bipush 57, 2) := by decide +kernel
theorem dX8_readsNumber_8 : decode cX8_readsNumber 8 = .ok (.invokestatic 110, 3) := by decide +kernel
theorem dX8_readsNumber_11 : decode cX8_readsNumber 11 = .ok (.ifCond .ne 5, 3) := by decide +kernel
theorem dX8_readsNumber_14 : decode cX8_readsNumber 14 = .ok (.iconst 0, 1) := by decide +kernel
theorem dX8_readsNumber_15 : decode cX8_readsNumber 15 = .ok (.ireturn, 1) := by decide +kernel
theorem dX8_readsNumber_16 : decode cX8_readsNumber 16 = .ok (.aload_n 0, 1) := by decide +kernel
theorem dX8_readsNumber_17 : decode cX8_readsNumber 17 = .ok (.getfield 246, 3) := by decide +kernel
theorem dX8_readsNumber_20 : decode cX8_readsNumber 20 = .ok (.istore_n 2, 1) := by decide +kernel
theorem dX8_readsNumber_21 : decode cX8_readsNumber 21 = .ok (.iconst 0, 1) := by decide +kernel
theorem dX8_readsNumber_22 : decode cX8_readsNumber 22 = .ok (.istore_n 3, 1) := by decide +kernel
theorem dX8_readsNumber_23 : decode cX8_readsNumber 23 = .ok (.aload_n 0, 1) := by decide +kernel
theorem dX8_readsNumber_24 : decode cX8_readsNumber 24 = .ok (.iconst 0, 1) := by decide +kernel
theorem dX8_readsNumber_25 : decode cX8_readsNumber 25 = .ok (.putfield 252, 3) := by decide +kernel
theorem dX8_readsNumber_28 : decode cX8_readsNumber 28 = .ok (.aload_n 0, 1) := by decide +kernel
theorem dX8_readsNumber_29 : decode cX8_readsNumber 29 = .ok (.getfield 246, 3) := by decide +kernel
theorem dX8_readsNumber_32 : decode cX8_readsNumber 32 = .ok (.aload_n 0, 1) := by decide +kernel
theorem dX8_readsNumber_33 : decode cX8_readsNumber 33 = .ok (.getfield 243, 3) := by decide +kernel
theorem dX8_readsNumber_36 : decode cX8_readsNumber 36 = .ok (.if_icmp .ge 74, 3) := by decide +kernel
theorem dX8_readsNumber_39 : decode cX8_readsNumber 39 = .ok (.aload_n 0, 1) := by decide +kernel
theorem dX8_readsNumber_40 : decode cX8_readsNumber 40 = .ok (.getfield 107, 3) := by decide +kernel
theorem dX8_readsNumber_43 : decode cX8_readsNumber 43 = .ok (.aload_n 0, 1) := by decide +kernel
theorem dX8_readsNumber_44 : decode cX8_readsNumber 44 = .ok (.getfield 246, 3) := by decide +kernel
theorem dX8_readsNumber_47 : decode cX8_readsNumber 47 = .ok (.iaload, 1) := by decide +kernel
theorem dX8_readsNumber_48 : decode cX8_readsNumber 48 = .ok (.bipush 48, 2) := by decide +kernel
theorem dX8_readsNumber_50 : decode cX8_readsNumber 50 = .ok (.bipush 57, 2) := by decide +kernel
theorem dX8_readsNumber_52 : decode cX8_readsNumber 52 = .ok (.invokestatic 110, 3) := by decide +kernel
theorem dX8_readsNumber_55 : decode cX8_readsNumber 55 = .ok (.ifCond .eq 55, 3) := by decide +kernel
theorem dX8_readsNumber_58 : decode cX8_readsNumber 58 = .ok (.aload_n 0, 1) := by decide +kernel
theorem dX8_readsNumber_59 : decode cX8_readsNumber 59 = .ok (.iload_n 3, 1) := by decide +kernel
theorem dX8_readsNumber_60 : decode cX8_readsNumber 60 = .ok (.iconst 2, 1) := by decide +kernel
theorem dX8_readsNumber_61 : decode cX8_readsNumber 61 = .ok (.if_icmp .ge 26, 3) := by decide +kernel
theorem dX8_readsNumber_64 : decode cX8_readsNumber 64 = .ok (.bipush 10, 2) := by decide +kernel
theorem dX8_readsNumber_66 : decode cX8_readsNumber 66 = .ok (.aload_n 0, 1) := by decide +kernel
theorem dX8_readsNumber_67 : decode cX8_readsNumber 67 = .ok (.getfield 252, 3) := by decide +kernel
theorem dX8_readsNumber_70 : decode cX8_readsNumber 70 = .ok (.imul, 1) := by decide +kernel
theorem dX8_readsNumber_71 : decode cX8_readsNumber 71 = .ok (.aload_n 0, 1) := by decide +kernel
theorem dX8_readsNumber_72 : decode cX8_readsNumber 72 = .ok (.getfield 107, 3) := by decide +kernel
theorem dX8_readsNumber_75 : decode cX8_readsNumber 75 = .ok (.aload_n 0, 1) := by decide +kernel
theorem dX8_readsNumber_76 : decode cX8_readsNumber 76 = .ok (.getfield 246, 3) := by decide +kernel
theorem dX8_readsNumber_79 : decode cX8_readsNumber 79 = .ok (.iaload, 1) := by decide +kernel
theorem dX8_readsNumber_80 : decode cX8_readsNumber 80 = .ok (.iadd, 1) := by decide +kernel
theorem dX8_readsNumber_81 : decode cX8_readsNumber 81 = .ok (.bipush 48, 2) := by decide +kernel
theorem dX8_readsNumber_83 : decode cX8_readsNumber 83 = .ok (.isub, 1) := by decide +kernel
theorem dX8_readsNumber_84 : decode cX8_readsNumber 84 = .ok (.goto 7, 3) := by decide +kernel
theorem dX8_readsNumber_87 : decode cX8_readsNumber 87 = .ok (.aload_n 0, 1) := by decide +kernel
theorem dX8_readsNumber_88 : decode cX8_readsNumber 88 = .ok (.getfield 252, 3) := by decide +kernel
theorem dX8_readsNumber_91 : decode cX8_readsNumber 91 = .ok (.putfield 252, 3) := by decide +kernel
theorem dX8_readsNumber_94 : decode cX8_readsNumber 94 = .ok (.iinc 3 1, 3) := by decide +kernel
theorem dX8_readsNumber_97 : decode cX8_readsNumber 97 = .ok (.aload_n 0, 1) := by decide +kernel
theorem dX8_readsNumber_98 : decode cX8_readsNumber 98 = .ok (.dup, 1) := by decide +kernel
theorem dX8_readsNumber_99 : decode cX8_readsNumber 99 = .ok (.getfield 246, 3) := by decide +kernel
theorem dX8_readsNumber_102 : decode cX8_readsNumber 102 = .ok (.iconst 1, 1) := by decide +kernel
theorem dX8_readsNumber_103 : decode cX8_readsNumber 103 = .ok (.iadd, 1) := by decide +kernel
theorem dX8_readsNumber_104 : decode cX8_readsNumber 104 = .ok (.putfield 246, 3) := by decide +kernel
theorem dX8_readsNumber_107 : decode cX8_readsNumber 107 = .ok (.goto (-79), 3) := by decide +kernel
theorem dX8_readsNumber_110 : decode cX8_readsNumber 110 = .ok (.iload_n 3, 1) := by decide +kernel
theorem dX8_readsNumber_111 : decode cX8_readsNumber 111 = .ok (.iconst 2, 1) := by decide +kernel
theorem dX8_readsNumber_112 : decode cX8_readsNumber 112 = .ok (.if_icmp .gt 11, 3) := by decide +kernel
theorem dX8_readsNumber_115 : decode cX8_readsNumber 115 = .ok (.aload_n 0, 1) := by decide +kernel
theorem dX8_readsNumber_116 : decode cX8_readsNumber 116 = .ok (.getfield 252, 3) := by decide +kernel
theorem dX8_readsNumber_119 : decode cX8_readsNumber 119 = .ok (.iload_n 1, 1) := by decide +kernel
theorem dX8_readsNumber_120 : decode cX8_readsNumber 120 = .ok (.if_icmp .le 10, 3) := by decide +kernel
theorem dX8_readsNumber_123 : decode cX8_readsNumber 123 = .ok (.aload_n 0, 1) := by decide +kernel
theorem dX8_readsNumber_124 : decode cX8_readsNumber 124 = .ok (.iload_n 2, 1) := by decide +kernel
theorem dX8_readsNumber_125 : decode cX8_readsNumber 125 = .ok (.putfield 246, 3) := by decide +kernel
theorem dX8_readsNumber_128 : decode cX8_readsNumber 128 = .ok (.iconst 0, 1) := by decide +kernel
theorem dX8_readsNumber_129 : decode cX8_readsNumber 129 = .ok (.ireturn, 1) := by decide +kernel
theorem dX8_readsNumber_130 : decode cX8_readsNumber 130 = .ok (.iconst 1, 1) := by decide +kernel
theorem dX8_readsNumber_131 : decode cX8_readsNumber 131 = .ok (.ireturn, 1) := by decide +kernel
theorem dX8_readsSender_0 : decode cX8_readsSender 0 = .ok (.aload_n 0, 1) := by decide +kernel
theorem dX8_readsSender_1 : decode cX8_readsSender 1 = .ok (.aload_n 0, 1) := by decide +kernel
theorem dX8_readsSender_2 : decode cX8_readsSender 2 = .ok (.getfield 13, 3) := by decide +kernel
theorem dX8_readsSender_5 : decode cX8_readsSender 5 = .ok (.invokevirtual 255, 3) := by decide +kernel
theorem dX8_readsSender_8 : decode cX8_readsSender 8 = .ok (.istore_n 1, 1) := by decide +kernel
theorem dX8_readsSender_9 : decode cX8_readsSender 9 = .ok (.aload_n 0, 1) := by decide +kernel
theorem dX8_readsSender_10 : decode cX8_readsSender 10 = .ok (.aload_n 0, 1) := by decide +kernel
theorem dX8_readsSender_11 : decode cX8_readsSender 11 = .ok (.getfield 252, 3) := by decide +kernel
theorem dX8_readsSender_14 : decode cX8_readsSender 14 = .ok (.putfield 258, 3) := by decide +kernel
theorem dX8_readsSender_17 : decode cX8_readsSender 17 = .ok (.iload_n 1, 1) := by decide +kernel
theorem dX8_readsSender_18 : decode cX8_readsSender 18 = .ok (.ireturn, 1) := by decide +kernel
theorem dX8_readsGate_0 : decode cX8_readsGate 0 = .ok (.aload_n 0, 1) := by decide +kernel
theorem dX8_readsGate_1 : decode cX8_readsGate 1 = .ok (.aload_n 0, 1) := by decide +kernel
theorem dX8_readsGate_2 : decode cX8_readsGate 2 = .ok (.getfield 17, 3) := by decide +kernel
theorem dX8_readsGate_5 : decode cX8_readsGate 5 = .ok (.invokevirtual 255, 3) := by decide +kernel
theorem dX8_readsGate_8 : decode cX8_readsGate 8 = .ok (.istore_n 1, 1) := by decide +kernel
theorem dX8_readsGate_9 : decode cX8_readsGate 9 = .ok (.aload_n 0, 1) := by decide +kernel
theorem dX8_readsGate_10 : decode cX8_readsGate 10 = .ok (.aload_n 0, 1) := by decide +kernel
theorem dX8_readsGate_11 : decode cX8_readsGate 11 = .ok (.getfield 252, 3) := by decide +kernel
theorem dX8_readsGate_14 : decode cX8_readsGate 14 = .ok (.putfield 261, 3) := by decide +kernel
theorem dX8_readsGate_17 : decode cX8_readsGate 17 = .ok (.iload_n 1, 1) := by decide +kernel
theorem dX8_readsGate_18 : decode cX8_readsGate 18 = .ok (.ireturn, 1) := by decide +kernel
theorem dX8_readsThird_0 : decode cX8_readsThird 0 = .ok (.aload_n 0, 1) := by decide +kernel
theorem dX8_readsThird_1 : decode cX8_readsThird 1 = .ok (.iload_n 1, 1) := by decide +kernel
theorem dX8_readsThird_2 : decode cX8_readsThird 2 = .ok (.invokevirtual 264, 3) := by decide +kernel
theorem dX8_readsThird_5 : decode cX8_readsThird 5 = .ok (.istore_n 2, 1) := by decide +kernel
theorem dX8_readsThird_6 : decode cX8_readsThird 6 = .ok (.aload_n 0, 1) := by decide +kernel
theorem dX8_readsThird_7 : decode cX8_readsThird 7 = .ok (.aload_n 0, 1) := by decide +kernel
theorem dX8_readsThird_8 : decode cX8_readsThird 8 = .ok (.getfield 252, 3) := by decide +kernel
theorem dX8_readsThird_11 : decode cX8_readsThird 11 = .ok (.putfield 267, 3) := by decide +kernel
theorem dX8_readsThird_14 : decode cX8_readsThird 14 = .ok (.iload_n 2, 1) := by decide +kernel
theorem dX8_readsThird_15 : decode cX8_readsThird 15 = .ok (.ireturn, 1) := by decide +kernel
theorem dX8_readsNumbers_0 : decode cX8_readsNumbers 0 = .ok (.iload_n 1, 1) := by decide +kernel
theorem dX8_readsNumbers_1 : decode cX8_readsNumbers 1 = .ok (.lookupswitch 122 #[(43, 64), (98, 100), (103, 71), (114, 59), (115, 59), (122, 59)], 59) := by decide +kernel
theorem dX8_readsNumbers_60 : decode cX8_readsNumbers 60 = .ok (.aload_n 0, 1) := by decide +kernel
theorem dX8_readsNumbers_61 : decode cX8_readsNumbers 61 = .ok (.invokevirtual 270, 3) := by decide +kernel
theorem dX8_readsNumbers_64 : decode cX8_readsNumbers 64 = .ok (.ireturn, 1) := by decide +kernel
theorem dX8_readsNumbers_65 : decode cX8_readsNumbers 65 = .ok (.aload_n 0, 1) := by decide +kernel
theorem dX8_readsNumbers_66 : decode cX8_readsNumbers 66 = .ok (.bipush 99, 2) := by decide +kernel
theorem dX8_readsNumbers_68 : decode cX8_readsNumbers 68 = .ok (.invokevirtual 273, 3) := by decide +kernel
theorem dX8_readsNumbers_71 : decode cX8_readsNumbers 71 = .ok (.ireturn, 1) := by decide +kernel
theorem dX8_readsNumbers_72 : decode cX8_readsNumbers 72 = .ok (.aload_n 0, 1) := by decide +kernel
theorem dX8_readsNumbers_73 : decode cX8_readsNumbers 73 = .ok (.invokevirtual 270, 3) := by decide +kernel
theorem dX8_readsNumbers_76 : decode cX8_readsNumbers 76 = .ok (.ifCond .eq 23, 3) := by decide +kernel
theorem dX8_readsNumbers_79 : decode cX8_readsNumbers 79 = .ok (.aload_n 0, 1) := by decide +kernel
theorem dX8_readsNumbers_80 : decode cX8_readsNumbers 80 = .ok (.invokevirtual 276, 3) := by decide +kernel
theorem dX8_readsNumbers_83 : decode cX8_readsNumbers 83 = .ok (.ifCond .eq 16, 3) := by decide +kernel
theorem dX8_readsNumbers_86 : decode cX8_readsNumbers 86 = .ok (.aload_n 0, 1) := by decide +kernel
theorem dX8_readsNumbers_87 : decode cX8_readsNumbers 87 = .ok (.bipush 60, 2) := by decide +kernel
theorem dX8_readsNumbers_89 : decode cX8_readsNumbers 89 = .ok (.invokevirtual 273, 3) := by decide +kernel
theorem dX8_readsNumbers_92 : decode cX8_readsNumbers 92 = .ok (.ifCond .eq 7, 3) := by decide +kernel
theorem dX8_readsNumbers_95 : decode cX8_readsNumbers 95 = .ok (.iconst 1, 1) := by decide +kernel
theorem dX8_readsNumbers_96 : decode cX8_readsNumbers 96 = .ok (.goto 4, 3) := by decide +kernel
theorem dX8_readsNumbers_99 : decode cX8_readsNumbers 99 = .ok (.iconst 0, 1) := by decide +kernel
theorem dX8_readsNumbers_100 : decode cX8_readsNumbers 100 = .ok (.ireturn, 1) := by decide +kernel
theorem dX8_readsNumbers_101 : decode cX8_readsNumbers 101 = .ok (.aload_n 0, 1) := by decide +kernel
theorem dX8_readsNumbers_102 : decode cX8_readsNumbers 102 = .ok (.invokevirtual 276, 3) := by decide +kernel
theorem dX8_readsNumbers_105 : decode cX8_readsNumbers 105 = .ok (.ifCond .eq 16, 3) := by decide +kernel
theorem dX8_readsNumbers_108 : decode cX8_readsNumbers 108 = .ok (.aload_n 0, 1) := by decide +kernel
theorem dX8_readsNumbers_109 : decode cX8_readsNumbers 109 = .ok (.bipush 40, 2) := by decide +kernel
theorem dX8_readsNumbers_111 : decode cX8_readsNumbers 111 = .ok (.invokevirtual 273, 3) := by decide +kernel
theorem dX8_readsNumbers_114 : decode cX8_readsNumbers 114 = .ok (.ifCond .eq 7, 3) := by decide +kernel
theorem dX8_readsNumbers_117 : decode cX8_readsNumbers 117 = .ok (.iconst 1, 1) := by decide +kernel
theorem dX8_readsNumbers_118 : decode cX8_readsNumbers 118 = .ok (.goto 4, 3) := by decide +kernel
theorem dX8_readsNumbers_121 : decode cX8_readsNumbers 121 = .ok (.iconst 0, 1) := by decide +kernel
theorem dX8_readsNumbers_122 : decode cX8_readsNumbers 122 = .ok (.ireturn, 1) := by decide +kernel
theorem dX8_readsNumbers_123 : decode cX8_readsNumbers 123 = .ok (.aload_n 0, 1) := by decide +kernel
theorem dX8_readsNumbers_124 : decode cX8_readsNumbers 124 = .ok (.invokevirtual 276, 3) := by decide +kernel
theorem dX8_readsNumbers_127 : decode cX8_readsNumbers 127 = .ok (.ifCond .eq 15, 3) := by decide +kernel
theorem dX8_readsNumbers_130 : decode cX8_readsNumbers 130 = .ok (.aload_n 0, 1) := by decide +kernel
theorem dX8_readsNumbers_131 : decode cX8_readsNumbers 131 = .ok (.iconst 5, 1) := by decide +kernel
theorem dX8_readsNumbers_132 : decode cX8_readsNumbers 132 = .ok (.invokevirtual 273, 3) := by decide +kernel
theorem dX8_readsNumbers_135 : decode cX8_readsNumbers 135 = .ok (.ifCond .eq 7, 3) := by decide +kernel
theorem dX8_readsNumbers_138 : decode cX8_readsNumbers 138 = .ok (.iconst 1, 1) := by decide +kernel
theorem dX8_readsNumbers_139 : decode cX8_readsNumbers 139 = .ok (.goto 4, 3) := by decide +kernel
theorem dX8_readsNumbers_142 : decode cX8_readsNumbers 142 = .ok (.iconst 0, 1) := by decide +kernel
theorem dX8_readsNumbers_143 : decode cX8_readsNumbers 143 = .ok (.ireturn, 1) := by decide +kernel
theorem dX8_isOrder_0 : decode cX8_isOrder 0 = .ok (.iload_n 0, 1) := by decide +kernel
theorem dX8_isOrder_1 : decode cX8_isOrder 1 = .ok (.bipush 115, 2) := by decide +kernel
theorem dX8_isOrder_3 : decode cX8_isOrder 3 = .ok (.if_icmp .eq 39, 3) := by decide +kernel
theorem dX8_isOrder_6 : decode cX8_isOrder 6 = .ok (.iload_n 0, 1) := by decide +kernel
theorem dX8_isOrder_7 : decode cX8_isOrder 7 = .ok (.bipush 122, 2) := by decide +kernel
theorem dX8_isOrder_9 : decode cX8_isOrder 9 = .ok (.if_icmp .eq 33, 3) := by decide +kernel
theorem dX8_isOrder_12 : decode cX8_isOrder 12 = .ok (.iload_n 0, 1) := by decide +kernel
theorem dX8_isOrder_13 : decode cX8_isOrder 13 = .ok (.bipush 114, 2) := by decide +kernel
theorem dX8_isOrder_15 : decode cX8_isOrder 15 = .ok (.if_icmp .eq 27, 3) := by decide +kernel
theorem dX8_isOrder_18 : decode cX8_isOrder 18 = .ok (.iload_n 0, 1) := by decide +kernel
theorem dX8_isOrder_19 : decode cX8_isOrder 19 = .ok (.bipush 43, 2) := by decide +kernel
theorem dX8_isOrder_21 : decode cX8_isOrder 21 = .ok (.if_icmp .eq 21, 3) := by decide +kernel
theorem dX8_isOrder_24 : decode cX8_isOrder 24 = .ok (.iload_n 0, 1) := by decide +kernel
theorem dX8_isOrder_25 : decode cX8_isOrder 25 = .ok (.bipush 103, 2) := by decide +kernel
theorem dX8_isOrder_27 : decode cX8_isOrder 27 = .ok (.if_icmp .eq 15, 3) := by decide +kernel
theorem dX8_isOrder_30 : decode cX8_isOrder 30 = .ok (.iload_n 0, 1) := by decide +kernel
theorem dX8_isOrder_31 : decode cX8_isOrder 31 = .ok (.bipush 98, 2) := by decide +kernel
theorem dX8_isOrder_33 : decode cX8_isOrder 33 = .ok (.if_icmp .eq 9, 3) := by decide +kernel
theorem dX8_isOrder_36 : decode cX8_isOrder 36 = .ok (.iload_n 0, 1) := by decide +kernel
theorem dX8_isOrder_37 : decode cX8_isOrder 37 = .ok (.bipush 108, 2) := by decide +kernel
theorem dX8_isOrder_39 : decode cX8_isOrder 39 = .ok (.if_icmp .ne 7, 3) := by decide +kernel
theorem dX8_isOrder_42 : decode cX8_isOrder 42 = .ok (.iconst 1, 1) := by decide +kernel
theorem dX8_isOrder_43 : decode cX8_isOrder 43 = .ok (.goto 4, 3) := by decide +kernel
theorem dX8_isOrder_46 : decode cX8_isOrder 46 = .ok (.iconst 0, 1) := by decide +kernel
theorem dX8_isOrder_47 : decode cX8_isOrder 47 = .ok (.ireturn, 1) := by decide +kernel
theorem dX8_readsOrder_0 : decode cX8_readsOrder 0 = .ok (.iload_n 1, 1) := by decide +kernel
theorem dX8_readsOrder_1 : decode cX8_readsOrder 1 = .ok (.invokestatic 279, 3) := by decide +kernel
theorem dX8_readsOrder_4 : decode cX8_readsOrder 4 = .ok (.ifCond .ne 5, 3) := by decide +kernel
theorem dX8_readsOrder_7 : decode cX8_readsOrder 7 = .ok (.iconst 0, 1) := by decide +kernel
theorem dX8_readsOrder_8 : decode cX8_readsOrder 8 = .ok (.ireturn, 1) := by decide +kernel
theorem dX8_readsOrder_9 : decode cX8_readsOrder 9 = .ok (.aload_n 0, 1) := by decide +kernel
theorem dX8_readsOrder_10 : decode cX8_readsOrder 10 = .ok (.dup, 1) := by decide +kernel
theorem dX8_readsOrder_11 : decode cX8_readsOrder 11 = .ok (.getfield 246, 3) := by decide +kernel
theorem dX8_readsOrder_14 : decode cX8_readsOrder 14 = .ok (.iconst 1, 1) := by decide +kernel
theorem dX8_readsOrder_15 : decode cX8_readsOrder 15 = .ok (.iadd, 1) := by decide +kernel
theorem dX8_readsOrder_16 : decode cX8_readsOrder 16 = .ok (.putfield 246, 3) := by decide +kernel
theorem dX8_readsOrder_19 : decode cX8_readsOrder 19 = .ok (.aload_n 0, 1) := by decide +kernel
theorem dX8_readsOrder_20 : decode cX8_readsOrder 20 = .ok (.iload_n 1, 1) := by decide +kernel
theorem dX8_readsOrder_21 : decode cX8_readsOrder 21 = .ok (.invokevirtual 282, 3) := by decide +kernel
theorem dX8_readsOrder_24 : decode cX8_readsOrder 24 = .ok (.ifCond .eq 12, 3) := by decide +kernel
theorem dX8_readsOrder_27 : decode cX8_readsOrder 27 = .ok (.aload_n 0, 1) := by decide +kernel
theorem dX8_readsOrder_28 : decode cX8_readsOrder 28 = .ok (.invokevirtual 249, 3) := by decide +kernel
theorem dX8_readsOrder_31 : decode cX8_readsOrder 31 = .ok (.bipush 59, 2) := by decide +kernel
theorem dX8_readsOrder_33 : decode cX8_readsOrder 33 = .ok (.if_icmp .eq 5, 3) := by decide +kernel
theorem dX8_readsOrder_36 : decode cX8_readsOrder 36 = .ok (.iconst 0, 1) := by decide +kernel
theorem dX8_readsOrder_37 : decode cX8_readsOrder 37 = .ok (.ireturn, 1) := by decide +kernel
theorem dX8_readsOrder_38 : decode cX8_readsOrder 38 = .ok (.aload_n 0, 1) := by decide +kernel
theorem dX8_readsOrder_39 : decode cX8_readsOrder 39 = .ok (.dup, 1) := by decide +kernel
theorem dX8_readsOrder_40 : decode cX8_readsOrder 40 = .ok (.getfield 246, 3) := by decide +kernel
theorem dX8_readsOrder_43 : decode cX8_readsOrder 43 = .ok (.iconst 1, 1) := by decide +kernel
theorem dX8_readsOrder_44 : decode cX8_readsOrder 44 = .ok (.iadd, 1) := by decide +kernel
theorem dX8_readsOrder_45 : decode cX8_readsOrder 45 = .ok (.putfield 246, 3) := by decide +kernel
theorem dX8_readsOrder_48 : decode cX8_readsOrder 48 = .ok (.iconst 1, 1) := by decide +kernel
theorem dX8_readsOrder_49 : decode cX8_readsOrder 49 = .ok (.ireturn, 1) := by decide +kernel
theorem dX8_doesOrder_0 : decode cX8_doesOrder 0 = .ok (.iload_n 1, 1) := by decide +kernel
theorem dX8_doesOrder_1 : decode cX8_doesOrder 1 = .ok (.lookupswitch 174 #[(43, 59), (98, 159), (103, 137), (114, 86), (115, 68), (122, 127)], 59) := by decide +kernel
theorem dX8_doesOrder_60 : decode cX8_doesOrder 60 = .ok (.aload_n 0, 1) := by decide +kernel
theorem dX8_doesOrder_61 : decode cX8_doesOrder 61 = .ok (.aload_n 0, 1) := by decide +kernel
theorem dX8_doesOrder_62 : decode cX8_doesOrder 62 = .ok (.getfield 267, 3) := by decide +kernel
theorem dX8_doesOrder_65 : decode cX8_doesOrder 65 = .ok (.invokevirtual 231, 3) := by decide +kernel
theorem dX8_doesOrder_68 : decode cX8_doesOrder 68 = .ok (.ireturn, 1) := by decide +kernel
theorem dX8_doesOrder_69 : decode cX8_doesOrder 69 = .ok (.aload_n 0, 1) := by decide +kernel
theorem dX8_doesOrder_70 : decode cX8_doesOrder 70 = .ok (.invokevirtual 167, 3) := by decide +kernel
theorem dX8_doesOrder_73 : decode cX8_doesOrder 73 = .ok (.ifCond .eq 12, 3) := by decide +kernel
theorem dX8_doesOrder_76 : decode cX8_doesOrder 76 = .ok (.aload_n 0, 1) := by decide +kernel
theorem dX8_doesOrder_77 : decode cX8_doesOrder 77 = .ok (.aload_n 0, 1) := by decide +kernel
theorem dX8_doesOrder_78 : decode cX8_doesOrder 78 = .ok (.getfield 258, 3) := by decide +kernel
theorem dX8_doesOrder_81 : decode cX8_doesOrder 81 = .ok (.invokevirtual 171, 3) := by decide +kernel
theorem dX8_doesOrder_84 : decode cX8_doesOrder 84 = .ok (.pop, 1) := by decide +kernel
theorem dX8_doesOrder_85 : decode cX8_doesOrder 85 = .ok (.iconst 0, 1) := by decide +kernel
theorem dX8_doesOrder_86 : decode cX8_doesOrder 86 = .ok (.ireturn, 1) := by decide +kernel
theorem dX8_doesOrder_87 : decode cX8_doesOrder 87 = .ok (.aload_n 0, 1) := by decide +kernel
theorem dX8_doesOrder_88 : decode cX8_doesOrder 88 = .ok (.getfield 56, 3) := by decide +kernel
theorem dX8_doesOrder_91 : decode cX8_doesOrder 91 = .ok (.aload_n 0, 1) := by decide +kernel
theorem dX8_doesOrder_92 : decode cX8_doesOrder 92 = .ok (.getfield 258, 3) := by decide +kernel
theorem dX8_doesOrder_95 : decode cX8_doesOrder 95 = .ok (.iaload, 1) := by decide +kernel
theorem dX8_doesOrder_96 : decode cX8_doesOrder 96 = .ok (.bipush (-2), 2) := by decide +kernel
theorem dX8_doesOrder_98 : decode cX8_doesOrder 98 = .ok (.if_icmp .eq 28, 3) := by decide +kernel
theorem dX8_doesOrder_101 : decode cX8_doesOrder 101 = .ok (.aload_n 0, 1) := by decide +kernel
theorem dX8_doesOrder_102 : decode cX8_doesOrder 102 = .ok (.invokevirtual 167, 3) := by decide +kernel
theorem dX8_doesOrder_105 : decode cX8_doesOrder 105 = .ok (.ifCond .eq 21, 3) := by decide +kernel
theorem dX8_doesOrder_108 : decode cX8_doesOrder 108 = .ok (.aload_n 0, 1) := by decide +kernel
theorem dX8_doesOrder_109 : decode cX8_doesOrder 109 = .ok (.aload_n 0, 1) := by decide +kernel
theorem dX8_doesOrder_110 : decode cX8_doesOrder 110 = .ok (.getfield 258, 3) := by decide +kernel
theorem dX8_doesOrder_113 : decode cX8_doesOrder 113 = .ok (.aload_n 0, 1) := by decide +kernel
theorem dX8_doesOrder_114 : decode cX8_doesOrder 114 = .ok (.getfield 56, 3) := by decide +kernel
theorem dX8_doesOrder_117 : decode cX8_doesOrder 117 = .ok (.aload_n 0, 1) := by decide +kernel
theorem dX8_doesOrder_118 : decode cX8_doesOrder 118 = .ok (.getfield 258, 3) := by decide +kernel
theorem dX8_doesOrder_121 : decode cX8_doesOrder 121 = .ok (.iaload, 1) := by decide +kernel
theorem dX8_doesOrder_122 : decode cX8_doesOrder 122 = .ok (.invokevirtual 164, 3) := by decide +kernel
theorem dX8_doesOrder_125 : decode cX8_doesOrder 125 = .ok (.pop, 1) := by decide +kernel
theorem dX8_doesOrder_126 : decode cX8_doesOrder 126 = .ok (.iconst 0, 1) := by decide +kernel
theorem dX8_doesOrder_127 : decode cX8_doesOrder 127 = .ok (.ireturn, 1) := by decide +kernel
theorem dX8_doesOrder_128 : decode cX8_doesOrder 128 = .ok (.aload_n 0, 1) := by decide +kernel
theorem dX8_doesOrder_129 : decode cX8_doesOrder 129 = .ok (.aload_n 0, 1) := by decide +kernel
theorem dX8_doesOrder_130 : decode cX8_doesOrder 130 = .ok (.getfield 258, 3) := by decide +kernel
theorem dX8_doesOrder_133 : decode cX8_doesOrder 133 = .ok (.invokevirtual 123, 3) := by decide +kernel
theorem dX8_doesOrder_136 : decode cX8_doesOrder 136 = .ok (.iconst 0, 1) := by decide +kernel
theorem dX8_doesOrder_137 : decode cX8_doesOrder 137 = .ok (.ireturn, 1) := by decide +kernel
theorem dX8_doesOrder_138 : decode cX8_doesOrder 138 = .ok (.aload_n 0, 1) := by decide +kernel
theorem dX8_doesOrder_139 : decode cX8_doesOrder 139 = .ok (.getfield 41, 3) := by decide +kernel
theorem dX8_doesOrder_142 : decode cX8_doesOrder 142 = .ok (.iconst 4, 1) := by decide +kernel
theorem dX8_doesOrder_143 : decode cX8_doesOrder 143 = .ok (.aload_n 0, 1) := by decide +kernel
theorem dX8_doesOrder_144 : decode cX8_doesOrder 144 = .ok (.getfield 258, 3) := by decide +kernel
theorem dX8_doesOrder_147 : decode cX8_doesOrder 147 = .ok (.imul, 1) := by decide +kernel
theorem dX8_doesOrder_148 : decode cX8_doesOrder 148 = .ok (.aload_n 0, 1) := by decide +kernel
theorem dX8_doesOrder_149 : decode cX8_doesOrder 149 = .ok (.getfield 261, 3) := by decide +kernel
theorem dX8_doesOrder_152 : decode cX8_doesOrder 152 = .ok (.iadd, 1) := by decide +kernel
theorem dX8_doesOrder_153 : decode cX8_doesOrder 153 = .ok (.aload_n 0, 1) := by decide +kernel
theorem dX8_doesOrder_154 : decode cX8_doesOrder 154 = .ok (.getfield 267, 3) := by decide +kernel
theorem dX8_doesOrder_157 : decode cX8_doesOrder 157 = .ok (.iastore, 1) := by decide +kernel
theorem dX8_doesOrder_158 : decode cX8_doesOrder 158 = .ok (.iconst 0, 1) := by decide +kernel
theorem dX8_doesOrder_159 : decode cX8_doesOrder 159 = .ok (.ireturn, 1) := by decide +kernel
theorem dX8_doesOrder_160 : decode cX8_doesOrder 160 = .ok (.aload_n 0, 1) := by decide +kernel
theorem dX8_doesOrder_161 : decode cX8_doesOrder 161 = .ok (.getfield 26, 3) := by decide +kernel
theorem dX8_doesOrder_164 : decode cX8_doesOrder 164 = .ok (.aload_n 0, 1) := by decide +kernel
theorem dX8_doesOrder_165 : decode cX8_doesOrder 165 = .ok (.getfield 261, 3) := by decide +kernel
theorem dX8_doesOrder_168 : decode cX8_doesOrder 168 = .ok (.aload_n 0, 1) := by decide +kernel
theorem dX8_doesOrder_169 : decode cX8_doesOrder 169 = .ok (.getfield 267, 3) := by decide +kernel
theorem dX8_doesOrder_172 : decode cX8_doesOrder 172 = .ok (.iastore, 1) := by decide +kernel
theorem dX8_doesOrder_173 : decode cX8_doesOrder 173 = .ok (.iconst 0, 1) := by decide +kernel
theorem dX8_doesOrder_174 : decode cX8_doesOrder 174 = .ok (.ireturn, 1) := by decide +kernel
theorem dX8_doesOrder_175 : decode cX8_doesOrder 175 = .ok (.aload_n 0, 1) := by decide +kernel
theorem dX8_doesOrder_176 : decode cX8_doesOrder 176 = .ok (.getfield 23, 3) := by decide +kernel
theorem dX8_doesOrder_179 : decode cX8_doesOrder 179 = .ok (.aload_n 0, 1) := by decide +kernel
theorem dX8_doesOrder_180 : decode cX8_doesOrder 180 = .ok (.getfield 261, 3) := by decide +kernel
theorem dX8_doesOrder_183 : decode cX8_doesOrder 183 = .ok (.aload_n 0, 1) := by decide +kernel
theorem dX8_doesOrder_184 : decode cX8_doesOrder 184 = .ok (.getfield 267, 3) := by decide +kernel
theorem dX8_doesOrder_187 : decode cX8_doesOrder 187 = .ok (.iastore, 1) := by decide +kernel
theorem dX8_doesOrder_188 : decode cX8_doesOrder 188 = .ok (.iconst 0, 1) := by decide +kernel
theorem dX8_doesOrder_189 : decode cX8_doesOrder 189 = .ok (.ireturn, 1) := by decide +kernel
theorem dX8_goesThrough_0 : decode cX8_goesThrough 0 = .ok (.aload_n 0, 1) := by decide +kernel
theorem dX8_goesThrough_1 : decode cX8_goesThrough 1 = .ok (.iconst 0, 1) := by decide +kernel
theorem dX8_goesThrough_2 : decode cX8_goesThrough 2 = .ok (.putfield 246, 3) := by decide +kernel
theorem dX8_goesThrough_5 : decode cX8_goesThrough 5 = .ok (.iconst 0, 1) := by decide +kernel
theorem dX8_goesThrough_6 : decode cX8_goesThrough 6 = .ok (.istore_n 2, 1) := by decide +kernel
theorem dX8_goesThrough_7 : decode cX8_goesThrough 7 = .ok (.aload_n 0, 1) := by decide +kernel
theorem dX8_goesThrough_8 : decode cX8_goesThrough 8 = .ok (.invokevirtual 249, 3) := by decide +kernel
theorem dX8_goesThrough_11 : decode cX8_goesThrough 11 = .ok (.iconst (-1), 1) := by decide +kernel
theorem dX8_goesThrough_12 : decode cX8_goesThrough 12 = .ok (.if_icmp .ne 11, 3) := by decide +kernel
theorem dX8_goesThrough_15 : decode cX8_goesThrough 15 = .ok (.bipush (-10), 2) := by decide +kernel
theorem dX8_goesThrough_17 : decode cX8_goesThrough 17 = .ok (.aload_n 0, 1) := by decide +kernel
theorem dX8_goesThrough_18 : decode cX8_goesThrough 18 = .ok (.getfield 243, 3) := by decide +kernel
theorem dX8_goesThrough_21 : decode cX8_goesThrough 21 = .ok (.isub, 1) := by decide +kernel
theorem dX8_goesThrough_22 : decode cX8_goesThrough 22 = .ok (.ireturn, 1) := by decide +kernel
theorem dX8_goesThrough_23 : decode cX8_goesThrough 23 = .ok (.aload_n 0, 1) := by decide +kernel
theorem dX8_goesThrough_24 : decode cX8_goesThrough 24 = .ok (.invokevirtual 249, 3) := by decide +kernel
theorem dX8_goesThrough_27 : decode cX8_goesThrough 27 = .ok (.iconst (-1), 1) := by decide +kernel
theorem dX8_goesThrough_28 : decode cX8_goesThrough 28 = .ok (.if_icmp .eq 43, 3) := by decide +kernel
theorem dX8_goesThrough_31 : decode cX8_goesThrough 31 = .ok (.aload_n 0, 1) := by decide +kernel
theorem dX8_goesThrough_32 : decode cX8_goesThrough 32 = .ok (.invokevirtual 249, 3) := by decide +kernel
theorem dX8_goesThrough_35 : decode cX8_goesThrough 35 = .ok (.istore_n 3, 1) := by decide +kernel
theorem dX8_goesThrough_36 : decode cX8_goesThrough 36 = .ok (.aload_n 0, 1) := by decide +kernel
theorem dX8_goesThrough_37 : decode cX8_goesThrough 37 = .ok (.iload_n 3, 1) := by decide +kernel
theorem dX8_goesThrough_38 : decode cX8_goesThrough 38 = .ok (.invokevirtual 285, 3) := by decide +kernel
theorem dX8_goesThrough_41 : decode cX8_goesThrough 41 = .ok (.ifCond .ne 11, 3) := by decide +kernel
theorem dX8_goesThrough_44 : decode cX8_goesThrough 44 = .ok (.bipush (-10), 2) := by decide +kernel
theorem dX8_goesThrough_46 : decode cX8_goesThrough 46 = .ok (.aload_n 0, 1) := by decide +kernel
theorem dX8_goesThrough_47 : decode cX8_goesThrough 47 = .ok (.getfield 246, 3) := by decide +kernel
theorem dX8_goesThrough_50 : decode cX8_goesThrough 50 = .ok (.isub, 1) := by decide +kernel
theorem dX8_goesThrough_51 : decode cX8_goesThrough 51 = .ok (.ireturn, 1) := by decide +kernel
theorem dX8_goesThrough_52 : decode cX8_goesThrough 52 = .ok (.iload_n 2, 1) := by decide +kernel
theorem dX8_goesThrough_53 : decode cX8_goesThrough 53 = .ok (.iload_n 1, 1) := by decide +kernel
theorem dX8_goesThrough_54 : decode cX8_goesThrough 54 = .ok (.ifCond .eq 11, 3) := by decide +kernel
theorem dX8_goesThrough_57 : decode cX8_goesThrough 57 = .ok (.aload_n 0, 1) := by decide +kernel
theorem dX8_goesThrough_58 : decode cX8_goesThrough 58 = .ok (.iload_n 3, 1) := by decide +kernel
theorem dX8_goesThrough_59 : decode cX8_goesThrough 59 = .ok (.invokevirtual 288, 3) := by decide +kernel
theorem dX8_goesThrough_62 : decode cX8_goesThrough 62 = .ok (.goto 4, 3) := by decide +kernel
theorem dX8_goesThrough_65 : decode cX8_goesThrough 65 = .ok (.iconst 0, 1) := by decide +kernel
theorem dX8_goesThrough_66 : decode cX8_goesThrough 66 = .ok (.iadd, 1) := by decide +kernel
theorem dX8_goesThrough_67 : decode cX8_goesThrough 67 = .ok (.istore_n 2, 1) := by decide +kernel
theorem dX8_goesThrough_68 : decode cX8_goesThrough 68 = .ok (.goto (-45), 3) := by decide +kernel
theorem dX8_goesThrough_71 : decode cX8_goesThrough 71 = .ok (.iload_n 2, 1) := by decide +kernel
theorem dX8_goesThrough_72 : decode cX8_goesThrough 72 = .ok (.ireturn, 1) := by decide +kernel
theorem dX8_does_0 : decode cX8_does 0 = .ok (.aload_n 0, 1) := by decide +kernel
theorem dX8_does_1 : decode cX8_does 1 = .ok (.iconst 0, 1) := by decide +kernel
theorem dX8_does_2 : decode cX8_does 2 = .ok (.invokevirtual 291, 3) := by decide +kernel
theorem dX8_does_5 : decode cX8_does 5 = .ok (.istore_n 1, 1) := by decide +kernel
theorem dX8_does_6 : decode cX8_does 6 = .ok (.iload_n 1, 1) := by decide +kernel
theorem dX8_does_7 : decode cX8_does 7 = .ok (.ifCond .ge 7, 3) := by decide +kernel
theorem dX8_does_10 : decode cX8_does 10 = .ok (.iload_n 1, 1) := by decide +kernel
theorem dX8_does_11 : decode cX8_does 11 = .ok (.goto 8, 3) := by decide +kernel
theorem dX8_does_14 : decode cX8_does 14 = .ok (.aload_n 0, 1) := by decide +kernel
theorem dX8_does_15 : decode cX8_does 15 = .ok (.iconst 1, 1) := by decide +kernel
theorem dX8_does_16 : decode cX8_does 16 = .ok (.invokevirtual 291, 3) := by decide +kernel
theorem dX8_does_19 : decode cX8_does 19 = .ok (.ireturn, 1) := by decide +kernel
theorem dX8_toldBy_0 : decode cX8_toldBy 0 = .ok (.iload_n 1, 1) := by decide +kernel
theorem dX8_toldBy_1 : decode cX8_toldBy 1 = .ok (.iconst 3, 1) := by decide +kernel
theorem dX8_toldBy_2 : decode cX8_toldBy 2 = .ok (.if_icmp .ge 12, 3) := by decide +kernel
theorem dX8_toldBy_5 : decode cX8_toldBy 5 = .ok (.aload_n 0, 1) := by decide +kernel
theorem dX8_toldBy_6 : decode cX8_toldBy 6 = .ok (.getfield 7, 3) := by decide +kernel
theorem dX8_toldBy_9 : decode cX8_toldBy 9 = .ok (.iload_n 1, 1) := by decide +kernel
theorem dX8_toldBy_10 : decode cX8_toldBy 10 = .ok (.iaload, 1) := by decide +kernel
theorem dX8_toldBy_11 : decode cX8_toldBy 11 = .ok (.goto 43, 3) := by decide +kernel
theorem dX8_toldBy_14 : decode cX8_toldBy 14 = .ok (.iload_n 1, 1) := by decide +kernel
theorem dX8_toldBy_15 : decode cX8_toldBy 15 = .ok (.iconst 3, 1) := by decide +kernel
theorem dX8_toldBy_16 : decode cX8_toldBy 16 = .ok (.if_icmp .ne 10, 3) := by decide +kernel
theorem dX8_toldBy_19 : decode cX8_toldBy 19 = .ok (.aload_n 0, 1) := by decide +kernel
theorem dX8_toldBy_20 : decode cX8_toldBy 20 = .ok (.getfield 243, 3) := by decide +kernel
theorem dX8_toldBy_23 : decode cX8_toldBy 23 = .ok (.goto 31, 3) := by decide +kernel
theorem dX8_toldBy_26 : decode cX8_toldBy 26 = .ok (.iload_n 1, 1) := by decide +kernel
theorem dX8_toldBy_27 : decode cX8_toldBy 27 = .ok (.iconst 4, 1) := by decide +kernel
theorem dX8_toldBy_28 : decode cX8_toldBy 28 = .ok (.if_icmp .ne 10, 3) := by decide +kernel
theorem dX8_toldBy_31 : decode cX8_toldBy 31 = .ok (.aload_n 0, 1) := by decide +kernel
theorem dX8_toldBy_32 : decode cX8_toldBy 32 = .ok (.getfield 13, 3) := by decide +kernel
theorem dX8_toldBy_35 : decode cX8_toldBy 35 = .ok (.goto 19, 3) := by decide +kernel
theorem dX8_toldBy_38 : decode cX8_toldBy 38 = .ok (.iload_n 1, 1) := by decide +kernel
theorem dX8_toldBy_39 : decode cX8_toldBy 39 = .ok (.iconst 5, 1) := by decide +kernel
theorem dX8_toldBy_40 : decode cX8_toldBy 40 = .ok (.if_icmp .ne 10, 3) := by decide +kernel
theorem dX8_toldBy_43 : decode cX8_toldBy 43 = .ok (.aload_n 0, 1) := by decide +kernel
theorem dX8_toldBy_44 : decode cX8_toldBy 44 = .ok (.getfield 17, 3) := by decide +kernel
theorem dX8_toldBy_47 : decode cX8_toldBy 47 = .ok (.goto 7, 3) := by decide +kernel
theorem dX8_toldBy_50 : decode cX8_toldBy 50 = .ok (.aload_n 0, 1) := by decide +kernel
theorem dX8_toldBy_51 : decode cX8_toldBy 51 = .ok (.getfield 20, 3) := by decide +kernel
theorem dX8_toldBy_54 : decode cX8_toldBy 54 = .ok (.ireturn, 1) := by decide +kernel
theorem dX8_told_0 : decode cX8_told 0 = .ok (.iload_n 1, 1) := by decide +kernel
theorem dX8_told_1 : decode cX8_told 1 = .ok (.iconst 0, 1) := by decide +kernel
theorem dX8_told_2 : decode cX8_told 2 = .ok (.bipush 6, 2) := by decide +kernel
theorem dX8_told_4 : decode cX8_told 4 = .ok (.invokestatic 110, 3) := by decide +kernel
theorem dX8_told_7 : decode cX8_told 7 = .ok (.ifCond .eq 11, 3) := by decide +kernel
theorem dX8_told_10 : decode cX8_told 10 = .ok (.aload_n 0, 1) := by decide +kernel
theorem dX8_told_11 : decode cX8_told 11 = .ok (.iload_n 1, 1) := by decide +kernel
theorem dX8_told_12 : decode cX8_told 12 = .ok (.invokevirtual 295, 3) := by decide +kernel
theorem dX8_told_15 : decode cX8_told 15 = .ok (.goto 7, 3) := by decide +kernel
theorem dX8_told_18 : decode cX8_told 18 = .ok (.aload_n 0, 1) := by decide +kernel
theorem dX8_told_19 : decode cX8_told 19 = .ok (.invokevirtual 127, 3) := by decide +kernel
theorem dX8_told_22 : decode cX8_told 22 = .ok (.ireturn, 1) := by decide +kernel
theorem dX8_digest_0 : decode cX8_digest 0 = .ok (.ldc2_w 298, 3) := by decide +kernel
theorem dX8_digest_3 : decode cX8_digest 3 = .ok (.lstore_n 1, 1) := by decide +kernel
theorem dX8_digest_4 : decode cX8_digest 4 = .ok (.iconst 0, 1) := by decide +kernel
theorem dX8_digest_5 : decode cX8_digest 5 = .ok (.istore_n 3, 1) := by decide +kernel
theorem dX8_digest_6 : decode cX8_digest 6 = .ok (.iload_n 3, 1) := by decide +kernel
theorem dX8_digest_7 : decode cX8_digest 7 = .ok (.bipush 7, 2) := by decide +kernel
theorem dX8_digest_9 : decode cX8_digest 9 = .ok (.if_icmp .ge 22, 3) := by decide +kernel
theorem dX8_digest_12 : decode cX8_digest 12 = .ok (.ldc2_w 300, 3) := by decide +kernel
theorem dX8_digest_15 : decode cX8_digest 15 = .ok (.lload_n 1, 1) := by decide +kernel
theorem dX8_digest_16 : decode cX8_digest 16 = .ok (.lmul, 1) := by decide +kernel
theorem dX8_digest_17 : decode cX8_digest 17 = .ok (.aload_n 0, 1) := by decide +kernel
theorem dX8_digest_18 : decode cX8_digest 18 = .ok (.iload_n 3, 1) := by decide +kernel
theorem dX8_digest_19 : decode cX8_digest 19 = .ok (.invokevirtual 295, 3) := by decide +kernel
theorem dX8_digest_22 : decode cX8_digest 22 = .ok (.i2l, 1) := by decide +kernel
theorem dX8_digest_23 : decode cX8_digest 23 = .ok (.ladd, 1) := by decide +kernel
theorem dX8_digest_24 : decode cX8_digest 24 = .ok (.lstore_n 1, 1) := by decide +kernel
theorem dX8_digest_25 : decode cX8_digest 25 = .ok (.iinc 3 1, 3) := by decide +kernel
theorem dX8_digest_28 : decode cX8_digest 28 = .ok (.goto (-22), 3) := by decide +kernel
theorem dX8_digest_31 : decode cX8_digest 31 = .ok (.iconst 0, 1) := by decide +kernel
theorem dX8_digest_32 : decode cX8_digest 32 = .ok (.istore_n 3, 1) := by decide +kernel
theorem dX8_digest_33 : decode cX8_digest 33 = .ok (.iload_n 3, 1) := by decide +kernel
theorem dX8_digest_34 : decode cX8_digest 34 = .ok (.aload_n 0, 1) := by decide +kernel
theorem dX8_digest_35 : decode cX8_digest 35 = .ok (.getfield 13, 3) := by decide +kernel
theorem dX8_digest_38 : decode cX8_digest 38 = .ok (.if_icmp .ge 40, 3) := by decide +kernel
theorem dX8_digest_41 : decode cX8_digest 41 = .ok (.iconst 0, 1) := by decide +kernel
theorem dX8_digest_42 : decode cX8_digest 42 = .ok (.istore 4, 2) := by decide +kernel
theorem dX8_digest_44 : decode cX8_digest 44 = .ok (.iload 4, 2) := by decide +kernel
theorem dX8_digest_46 : decode cX8_digest 46 = .ok (.bipush 8, 2) := by decide +kernel
theorem dX8_digest_48 : decode cX8_digest 48 = .ok (.if_icmp .ge 24, 3) := by decide +kernel
theorem dX8_digest_51 : decode cX8_digest 51 = .ok (.ldc2_w 300, 3) := by decide +kernel
theorem dX8_digest_54 : decode cX8_digest 54 = .ok (.lload_n 1, 1) := by decide +kernel
theorem dX8_digest_55 : decode cX8_digest 55 = .ok (.lmul, 1) := by decide +kernel
theorem dX8_digest_56 : decode cX8_digest 56 = .ok (.aload_n 0, 1) := by decide +kernel
theorem dX8_digest_57 : decode cX8_digest 57 = .ok (.iload_n 3, 1) := by decide +kernel
theorem dX8_digest_58 : decode cX8_digest 58 = .ok (.iload 4, 2) := by decide +kernel
theorem dX8_digest_60 : decode cX8_digest 60 = .ok (.invokevirtual 234, 3) := by decide +kernel
theorem dX8_digest_63 : decode cX8_digest 63 = .ok (.i2l, 1) := by decide +kernel
theorem dX8_digest_64 : decode cX8_digest 64 = .ok (.ladd, 1) := by decide +kernel
theorem dX8_digest_65 : decode cX8_digest 65 = .ok (.lstore_n 1, 1) := by decide +kernel
theorem dX8_digest_66 : decode cX8_digest 66 = .ok (.iinc 4 1, 3) := by decide +kernel
theorem dX8_digest_69 : decode cX8_digest 69 = .ok (.goto (-25), 3) := by decide +kernel
theorem dX8_digest_72 : decode cX8_digest 72 = .ok (.iinc 3 1, 3) := by decide +kernel
theorem dX8_digest_75 : decode cX8_digest 75 = .ok (.goto (-42), 3) := by decide +kernel
theorem dX8_digest_78 : decode cX8_digest 78 = .ok (.iconst 0, 1) := by decide +kernel
theorem dX8_digest_79 : decode cX8_digest 79 = .ok (.istore_n 3, 1) := by decide +kernel
theorem dX8_digest_80 : decode cX8_digest 80 = .ok (.iload_n 3, 1) := by decide +kernel
theorem dX8_digest_81 : decode cX8_digest 81 = .ok (.aload_n 0, 1) := by decide +kernel
theorem dX8_digest_82 : decode cX8_digest 82 = .ok (.getfield 17, 3) := by decide +kernel
theorem dX8_digest_85 : decode cX8_digest 85 = .ok (.if_icmp .ge 39, 3) := by decide +kernel
theorem dX8_digest_88 : decode cX8_digest 88 = .ok (.iconst 0, 1) := by decide +kernel
theorem dX8_digest_89 : decode cX8_digest 89 = .ok (.istore 4, 2) := by decide +kernel
theorem dX8_digest_91 : decode cX8_digest 91 = .ok (.iload 4, 2) := by decide +kernel
theorem dX8_digest_93 : decode cX8_digest 93 = .ok (.iconst 4, 1) := by decide +kernel
theorem dX8_digest_94 : decode cX8_digest 94 = .ok (.if_icmp .ge 24, 3) := by decide +kernel
theorem dX8_digest_97 : decode cX8_digest 97 = .ok (.ldc2_w 300, 3) := by decide +kernel
theorem dX8_digest_100 : decode cX8_digest 100 = .ok (.lload_n 1, 1) := by decide +kernel
theorem dX8_digest_101 : decode cX8_digest 101 = .ok (.lmul, 1) := by decide +kernel
theorem dX8_digest_102 : decode cX8_digest 102 = .ok (.aload_n 0, 1) := by decide +kernel
theorem dX8_digest_103 : decode cX8_digest 103 = .ok (.iload_n 3, 1) := by decide +kernel
theorem dX8_digest_104 : decode cX8_digest 104 = .ok (.iload 4, 2) := by decide +kernel
theorem dX8_digest_106 : decode cX8_digest 106 = .ok (.invokevirtual 237, 3) := by decide +kernel
theorem dX8_digest_109 : decode cX8_digest 109 = .ok (.i2l, 1) := by decide +kernel
theorem dX8_digest_110 : decode cX8_digest 110 = .ok (.ladd, 1) := by decide +kernel
theorem dX8_digest_111 : decode cX8_digest 111 = .ok (.lstore_n 1, 1) := by decide +kernel
theorem dX8_digest_112 : decode cX8_digest 112 = .ok (.iinc 4 1, 3) := by decide +kernel
theorem dX8_digest_115 : decode cX8_digest 115 = .ok (.goto (-24), 3) := by decide +kernel
theorem dX8_digest_118 : decode cX8_digest 118 = .ok (.iinc 3 1, 3) := by decide +kernel
theorem dX8_digest_121 : decode cX8_digest 121 = .ok (.goto (-41), 3) := by decide +kernel
theorem dX8_digest_124 : decode cX8_digest 124 = .ok (.iconst 0, 1) := by decide +kernel
theorem dX8_digest_125 : decode cX8_digest 125 = .ok (.istore_n 3, 1) := by decide +kernel
theorem dX8_digest_126 : decode cX8_digest 126 = .ok (.iload_n 3, 1) := by decide +kernel
theorem dX8_digest_127 : decode cX8_digest 127 = .ok (.bipush 9, 2) := by decide +kernel
theorem dX8_digest_129 : decode cX8_digest 129 = .ok (.if_icmp .ge 22, 3) := by decide +kernel
theorem dX8_digest_132 : decode cX8_digest 132 = .ok (.ldc2_w 300, 3) := by decide +kernel
theorem dX8_digest_135 : decode cX8_digest 135 = .ok (.lload_n 1, 1) := by decide +kernel
theorem dX8_digest_136 : decode cX8_digest 136 = .ok (.lmul, 1) := by decide +kernel
theorem dX8_digest_137 : decode cX8_digest 137 = .ok (.aload_n 0, 1) := by decide +kernel
theorem dX8_digest_138 : decode cX8_digest 138 = .ok (.iload_n 3, 1) := by decide +kernel
theorem dX8_digest_139 : decode cX8_digest 139 = .ok (.invokevirtual 240, 3) := by decide +kernel
theorem dX8_digest_142 : decode cX8_digest 142 = .ok (.i2l, 1) := by decide +kernel
theorem dX8_digest_143 : decode cX8_digest 143 = .ok (.ladd, 1) := by decide +kernel
theorem dX8_digest_144 : decode cX8_digest 144 = .ok (.lstore_n 1, 1) := by decide +kernel
theorem dX8_digest_145 : decode cX8_digest 145 = .ok (.iinc 3 1, 3) := by decide +kernel
theorem dX8_digest_148 : decode cX8_digest 148 = .ok (.goto (-22), 3) := by decide +kernel
theorem dX8_digest_151 : decode cX8_digest 151 = .ok (.lload_n 1, 1) := by decide +kernel
theorem dX8_digest_152 : decode cX8_digest 152 = .ok (.lreturn, 1) := by decide +kernel
theorem dJ9_floorMod_7cf53_0 : decode cJ9_floorMod_7cf53 0 = .ok (.iload_n 0, 1) := by decide +kernel
theorem dJ9_floorMod_7cf53_1 : decode cJ9_floorMod_7cf53 1 = .ok (.iload_n 1, 1) := by decide +kernel
theorem dJ9_floorMod_7cf53_2 : decode cJ9_floorMod_7cf53 2 = .ok (.irem, 1) := by decide +kernel
theorem dJ9_floorMod_7cf53_3 : decode cJ9_floorMod_7cf53 3 = .ok (.istore_n 2, 1) := by decide +kernel
theorem dJ9_floorMod_7cf53_4 : decode cJ9_floorMod_7cf53 4 = .ok (.iload_n 0, 1) := by decide +kernel
theorem dJ9_floorMod_7cf53_5 : decode cJ9_floorMod_7cf53 5 = .ok (.iload_n 1, 1) := by decide +kernel
theorem dJ9_floorMod_7cf53_6 : decode cJ9_floorMod_7cf53 6 = .ok (.ixor, 1) := by decide +kernel
theorem dJ9_floorMod_7cf53_7 : decode cJ9_floorMod_7cf53 7 = .ok (.ifCond .ge 11, 3) := by decide +kernel
theorem dJ9_floorMod_7cf53_10 : decode cJ9_floorMod_7cf53 10 = .ok (.iload_n 2, 1) := by decide +kernel
theorem dJ9_floorMod_7cf53_11 : decode cJ9_floorMod_7cf53 11 = .ok (.ifCond .eq 7, 3) := by decide +kernel
theorem dJ9_floorMod_7cf53_14 : decode cJ9_floorMod_7cf53 14 = .ok (.iload_n 2, 1) := by decide +kernel
theorem dJ9_floorMod_7cf53_15 : decode cJ9_floorMod_7cf53 15 = .ok (.iload_n 1, 1) := by decide +kernel
theorem dJ9_floorMod_7cf53_16 : decode cJ9_floorMod_7cf53 16 = .ok (.iadd, 1) := by decide +kernel
theorem dJ9_floorMod_7cf53_17 : decode cJ9_floorMod_7cf53 17 = .ok (.ireturn, 1) := by decide +kernel
theorem dJ9_floorMod_7cf53_18 : decode cJ9_floorMod_7cf53 18 = .ok (.iload_n 2, 1) := by decide +kernel
theorem dJ9_floorMod_7cf53_19 : decode cJ9_floorMod_7cf53 19 = .ok (.ireturn, 1) := by decide +kernel
theorem dJ9_max_7cf53_0 : decode cJ9_max_7cf53 0 = .ok (.iload_n 0, 1) := by decide +kernel
theorem dJ9_max_7cf53_1 : decode cJ9_max_7cf53 1 = .ok (.iload_n 1, 1) := by decide +kernel
theorem dJ9_max_7cf53_2 : decode cJ9_max_7cf53 2 = .ok (.if_icmp .lt 7, 3) := by decide +kernel
theorem dJ9_max_7cf53_5 : decode cJ9_max_7cf53 5 = .ok (.iload_n 0, 1) := by decide +kernel
theorem dJ9_max_7cf53_6 : decode cJ9_max_7cf53 6 = .ok (.goto 4, 3) := by decide +kernel
theorem dJ9_max_7cf53_9 : decode cJ9_max_7cf53 9 = .ok (.iload_n 1, 1) := by decide +kernel
theorem dJ9_max_7cf53_10 : decode cJ9_max_7cf53 10 = .ok (.ireturn, 1) := by decide +kernel
theorem dJ7_fill_53178_0 : decode cJ7_fill_53178 0 = .ok (.iconst 0, 1) := by decide +kernel
theorem dJ7_fill_53178_1 : decode cJ7_fill_53178 1 = .ok (.istore_n 2, 1) := by decide +kernel
theorem dJ7_fill_53178_2 : decode cJ7_fill_53178 2 = .ok (.aload_n 0, 1) := by decide +kernel
theorem dJ7_fill_53178_3 : decode cJ7_fill_53178 3 = .ok (.arraylength, 1) := by decide +kernel
theorem dJ7_fill_53178_4 : decode cJ7_fill_53178 4 = .ok (.istore_n 3, 1) := by decide +kernel
theorem dJ7_fill_53178_5 : decode cJ7_fill_53178 5 = .ok (.iload_n 2, 1) := by decide +kernel
theorem dJ7_fill_53178_6 : decode cJ7_fill_53178 6 = .ok (.iload_n 3, 1) := by decide +kernel
theorem dJ7_fill_53178_7 : decode cJ7_fill_53178 7 = .ok (.if_icmp .ge 13, 3) := by decide +kernel
theorem dJ7_fill_53178_10 : decode cJ7_fill_53178 10 = .ok (.aload_n 0, 1) := by decide +kernel
theorem dJ7_fill_53178_11 : decode cJ7_fill_53178 11 = .ok (.iload_n 2, 1) := by decide +kernel
theorem dJ7_fill_53178_12 : decode cJ7_fill_53178 12 = .ok (.iload_n 1, 1) := by decide +kernel
theorem dJ7_fill_53178_13 : decode cJ7_fill_53178 13 = .ok (.iastore, 1) := by decide +kernel
theorem dJ7_fill_53178_14 : decode cJ7_fill_53178 14 = .ok (.iinc 2 1, 3) := by decide +kernel
theorem dJ7_fill_53178_17 : decode cJ7_fill_53178 17 = .ok (.goto (-12), 3) := by decide +kernel
theorem dJ7_fill_53178_20 : decode cJ7_fill_53178 20 = .ok (.return_, 1) := by decide +kernel
theorem dL_law_0 : decode cL_law 0 = .ok (.new 7, 3) := by decide +kernel
theorem dL_law_3 : decode cL_law 3 = .ok (.dup, 1) := by decide +kernel
theorem dL_law_4 : decode cL_law 4 = .ok (.invokespecial 9, 3) := by decide +kernel
theorem dL_law_7 : decode cL_law 7 = .ok (.astore_n 1, 1) := by decide +kernel
theorem dL_law_8 : decode cL_law 8 = .ok (.new 10, 3) := by decide +kernel
theorem dL_law_11 : decode cL_law 11 = .ok (.dup, 1) := by decide +kernel
theorem dL_law_12 : decode cL_law 12 = .ok (.invokespecial 12, 3) := by decide +kernel
theorem dL_law_15 : decode cL_law 15 = .ok (.astore_n 2, 1) := by decide +kernel
theorem dL_law_16 : decode cL_law 16 = .ok (.iconst 0, 1) := by decide +kernel
theorem dL_law_17 : decode cL_law 17 = .ok (.istore_n 3, 1) := by decide +kernel
theorem dL_law_18 : decode cL_law 18 = .ok (.iload_n 3, 1) := by decide +kernel
theorem dL_law_19 : decode cL_law 19 = .ok (.aload_n 0, 1) := by decide +kernel
theorem dL_law_20 : decode cL_law 20 = .ok (.arraylength, 1) := by decide +kernel
theorem dL_law_21 : decode cL_law 21 = .ok (.iconst 4, 1) := by decide +kernel
theorem dL_law_22 : decode cL_law 22 = .ok (.isub, 1) := by decide +kernel
theorem dL_law_23 : decode cL_law 23 = .ok (.if_icmp .gt 699, 3) := by decide +kernel
theorem dL_law_26 : decode cL_law 26 = .ok (.aload_n 0, 1) := by decide +kernel
theorem dL_law_27 : decode cL_law 27 = .ok (.iload_n 3, 1) := by decide +kernel
theorem dL_law_28 : decode cL_law 28 = .ok (.iaload, 1) := by decide +kernel
theorem dL_law_29 : decode cL_law 29 = .ok (.bipush 31, 2) := by decide +kernel
theorem dL_law_31 : decode cL_law 31 = .ok (.iand, 1) := by decide +kernel
theorem dL_law_32 : decode cL_law 32 = .ok (.tableswitch 684 0 20 #[100, 133, 176, 219, 242, 285, 308, 331, 354, 377, 410, 443, 476, 509, 532, 565, 598, 621, 634, 647, 670], 100) := by decide +kernel
theorem dL_law_132 : decode cL_law 132 = .ok (.aload_n 1, 1) := by decide +kernel
theorem dL_law_133 : decode cL_law 133 = .ok (.aload_n 0, 1) := by decide +kernel
theorem dL_law_134 : decode cL_law 134 = .ok (.iload_n 3, 1) := by decide +kernel
theorem dL_law_135 : decode cL_law 135 = .ok (.iconst 1, 1) := by decide +kernel
theorem dL_law_136 : decode cL_law 136 = .ok (.iadd, 1) := by decide +kernel
theorem dL_law_137 : decode cL_law 137 = .ok (.iaload, 1) := by decide +kernel
theorem dL_law_138 : decode cL_law 138 = .ok (.aload_n 0, 1) := by decide +kernel
theorem dL_law_139 : decode cL_law 139 = .ok (.iload_n 3, 1) := by decide +kernel
theorem dL_law_140 : decode cL_law 140 = .ok (.iconst 2, 1) := by decide +kernel
theorem dL_law_141 : decode cL_law 141 = .ok (.iadd, 1) := by decide +kernel
theorem dL_law_142 : decode cL_law 142 = .ok (.iaload, 1) := by decide +kernel
theorem dL_law_143 : decode cL_law 143 = .ok (.invokevirtual 13, 3) := by decide +kernel
theorem dL_law_146 : decode cL_law 146 = .ok (.aload_n 2, 1) := by decide +kernel
theorem dL_law_147 : decode cL_law 147 = .ok (.aload_n 0, 1) := by decide +kernel
theorem dL_law_148 : decode cL_law 148 = .ok (.iload_n 3, 1) := by decide +kernel
theorem dL_law_149 : decode cL_law 149 = .ok (.iconst 1, 1) := by decide +kernel
theorem dL_law_150 : decode cL_law 150 = .ok (.iadd, 1) := by decide +kernel
theorem dL_law_151 : decode cL_law 151 = .ok (.iaload, 1) := by decide +kernel
theorem dL_law_152 : decode cL_law 152 = .ok (.aload_n 0, 1) := by decide +kernel
theorem dL_law_153 : decode cL_law 153 = .ok (.iload_n 3, 1) := by decide +kernel
theorem dL_law_154 : decode cL_law 154 = .ok (.iconst 2, 1) := by decide +kernel
theorem dL_law_155 : decode cL_law 155 = .ok (.iadd, 1) := by decide +kernel
theorem dL_law_156 : decode cL_law 156 = .ok (.iaload, 1) := by decide +kernel
theorem dL_law_157 : decode cL_law 157 = .ok (.invokevirtual 17, 3) := by decide +kernel
theorem dL_law_160 : decode cL_law 160 = .ok (.if_icmp .eq 556, 3) := by decide +kernel
theorem dL_law_163 : decode cL_law 163 = .ok (.iconst 0, 1) := by decide +kernel
theorem dL_law_164 : decode cL_law 164 = .ok (.ireturn, 1) := by decide +kernel
theorem dL_law_165 : decode cL_law 165 = .ok (.aload_n 1, 1) := by decide +kernel
theorem dL_law_166 : decode cL_law 166 = .ok (.aload_n 0, 1) := by decide +kernel
theorem dL_law_167 : decode cL_law 167 = .ok (.iload_n 3, 1) := by decide +kernel
theorem dL_law_168 : decode cL_law 168 = .ok (.iconst 1, 1) := by decide +kernel
theorem dL_law_169 : decode cL_law 169 = .ok (.iadd, 1) := by decide +kernel
theorem dL_law_170 : decode cL_law 170 = .ok (.iaload, 1) := by decide +kernel
theorem dL_law_171 : decode cL_law 171 = .ok (.aload_n 0, 1) := by decide +kernel
theorem dL_law_172 : decode cL_law 172 = .ok (.iload_n 3, 1) := by decide +kernel
theorem dL_law_173 : decode cL_law 173 = .ok (.iconst 2, 1) := by decide +kernel
theorem dL_law_174 : decode cL_law 174 = .ok (.iadd, 1) := by decide +kernel
theorem dL_law_175 : decode cL_law 175 = .ok (.iaload, 1) := by decide +kernel
theorem dL_law_176 : decode cL_law 176 = .ok (.aload_n 0, 1) := by decide +kernel
theorem dL_law_177 : decode cL_law 177 = .ok (.iload_n 3, 1) := by decide +kernel
theorem dL_law_178 : decode cL_law 178 = .ok (.iconst 3, 1) := by decide +kernel
theorem dL_law_179 : decode cL_law 179 = .ok (.iadd, 1) := by decide +kernel
theorem dL_law_180 : decode cL_law 180 = .ok (.iaload, 1) := by decide +kernel
theorem dL_law_181 : decode cL_law 181 = .ok (.invokevirtual 18, 3) := by decide +kernel
theorem dL_law_184 : decode cL_law 184 = .ok (.aload_n 2, 1) := by decide +kernel
theorem dL_law_185 : decode cL_law 185 = .ok (.aload_n 0, 1) := by decide +kernel
theorem dL_law_186 : decode cL_law 186 = .ok (.iload_n 3, 1) := by decide +kernel
theorem dL_law_187 : decode cL_law 187 = .ok (.iconst 1, 1) := by decide +kernel
theorem dL_law_188 : decode cL_law 188 = .ok (.iadd, 1) := by decide +kernel
theorem dL_law_189 : decode cL_law 189 = .ok (.iaload, 1) := by decide +kernel
theorem dL_law_190 : decode cL_law 190 = .ok (.aload_n 0, 1) := by decide +kernel
theorem dL_law_191 : decode cL_law 191 = .ok (.iload_n 3, 1) := by decide +kernel
theorem dL_law_192 : decode cL_law 192 = .ok (.iconst 2, 1) := by decide +kernel
theorem dL_law_193 : decode cL_law 193 = .ok (.iadd, 1) := by decide +kernel
theorem dL_law_194 : decode cL_law 194 = .ok (.iaload, 1) := by decide +kernel
theorem dL_law_195 : decode cL_law 195 = .ok (.aload_n 0, 1) := by decide +kernel
theorem dL_law_196 : decode cL_law 196 = .ok (.iload_n 3, 1) := by decide +kernel
theorem dL_law_197 : decode cL_law 197 = .ok (.iconst 3, 1) := by decide +kernel
theorem dL_law_198 : decode cL_law 198 = .ok (.iadd, 1) := by decide +kernel
theorem dL_law_199 : decode cL_law 199 = .ok (.iaload, 1) := by decide +kernel
theorem dL_law_200 : decode cL_law 200 = .ok (.invokevirtual 22, 3) := by decide +kernel
theorem dL_law_203 : decode cL_law 203 = .ok (.if_icmp .eq 513, 3) := by decide +kernel
theorem dL_law_206 : decode cL_law 206 = .ok (.iconst 0, 1) := by decide +kernel
theorem dL_law_207 : decode cL_law 207 = .ok (.ireturn, 1) := by decide +kernel
theorem dL_law_208 : decode cL_law 208 = .ok (.aload_n 1, 1) := by decide +kernel
theorem dL_law_209 : decode cL_law 209 = .ok (.aload_n 0, 1) := by decide +kernel
theorem dL_law_210 : decode cL_law 210 = .ok (.iload_n 3, 1) := by decide +kernel
theorem dL_law_211 : decode cL_law 211 = .ok (.iconst 1, 1) := by decide +kernel
theorem dL_law_212 : decode cL_law 212 = .ok (.iadd, 1) := by decide +kernel
theorem dL_law_213 : decode cL_law 213 = .ok (.iaload, 1) := by decide +kernel
theorem dL_law_214 : decode cL_law 214 = .ok (.aload_n 0, 1) := by decide +kernel
theorem dL_law_215 : decode cL_law 215 = .ok (.iload_n 3, 1) := by decide +kernel
theorem dL_law_216 : decode cL_law 216 = .ok (.iconst 2, 1) := by decide +kernel
theorem dL_law_217 : decode cL_law 217 = .ok (.iadd, 1) := by decide +kernel
theorem dL_law_218 : decode cL_law 218 = .ok (.iaload, 1) := by decide +kernel
theorem dL_law_219 : decode cL_law 219 = .ok (.aload_n 0, 1) := by decide +kernel
theorem dL_law_220 : decode cL_law 220 = .ok (.iload_n 3, 1) := by decide +kernel
theorem dL_law_221 : decode cL_law 221 = .ok (.iconst 3, 1) := by decide +kernel
theorem dL_law_222 : decode cL_law 222 = .ok (.iadd, 1) := by decide +kernel
theorem dL_law_223 : decode cL_law 223 = .ok (.iaload, 1) := by decide +kernel
theorem dL_law_224 : decode cL_law 224 = .ok (.invokevirtual 23, 3) := by decide +kernel
theorem dL_law_227 : decode cL_law 227 = .ok (.aload_n 2, 1) := by decide +kernel
theorem dL_law_228 : decode cL_law 228 = .ok (.aload_n 0, 1) := by decide +kernel
theorem dL_law_229 : decode cL_law 229 = .ok (.iload_n 3, 1) := by decide +kernel
theorem dL_law_230 : decode cL_law 230 = .ok (.iconst 1, 1) := by decide +kernel
theorem dL_law_231 : decode cL_law 231 = .ok (.iadd, 1) := by decide +kernel
theorem dL_law_232 : decode cL_law 232 = .ok (.iaload, 1) := by decide +kernel
theorem dL_law_233 : decode cL_law 233 = .ok (.aload_n 0, 1) := by decide +kernel
theorem dL_law_234 : decode cL_law 234 = .ok (.iload_n 3, 1) := by decide +kernel
theorem dL_law_235 : decode cL_law 235 = .ok (.iconst 2, 1) := by decide +kernel
theorem dL_law_236 : decode cL_law 236 = .ok (.iadd, 1) := by decide +kernel
theorem dL_law_237 : decode cL_law 237 = .ok (.iaload, 1) := by decide +kernel
theorem dL_law_238 : decode cL_law 238 = .ok (.aload_n 0, 1) := by decide +kernel
theorem dL_law_239 : decode cL_law 239 = .ok (.iload_n 3, 1) := by decide +kernel
theorem dL_law_240 : decode cL_law 240 = .ok (.iconst 3, 1) := by decide +kernel
theorem dL_law_241 : decode cL_law 241 = .ok (.iadd, 1) := by decide +kernel
theorem dL_law_242 : decode cL_law 242 = .ok (.iaload, 1) := by decide +kernel
theorem dL_law_243 : decode cL_law 243 = .ok (.invokevirtual 26, 3) := by decide +kernel
theorem dL_law_246 : decode cL_law 246 = .ok (.if_icmp .eq 470, 3) := by decide +kernel
theorem dL_law_249 : decode cL_law 249 = .ok (.iconst 0, 1) := by decide +kernel
theorem dL_law_250 : decode cL_law 250 = .ok (.ireturn, 1) := by decide +kernel
theorem dL_law_251 : decode cL_law 251 = .ok (.aload_n 1, 1) := by decide +kernel
theorem dL_law_252 : decode cL_law 252 = .ok (.aload_n 0, 1) := by decide +kernel
theorem dL_law_253 : decode cL_law 253 = .ok (.iload_n 3, 1) := by decide +kernel
theorem dL_law_254 : decode cL_law 254 = .ok (.iconst 1, 1) := by decide +kernel
theorem dL_law_255 : decode cL_law 255 = .ok (.iadd, 1) := by decide +kernel
theorem dL_law_256 : decode cL_law 256 = .ok (.iaload, 1) := by decide +kernel
theorem dL_law_257 : decode cL_law 257 = .ok (.invokevirtual 27, 3) := by decide +kernel
theorem dL_law_260 : decode cL_law 260 = .ok (.aload_n 2, 1) := by decide +kernel
theorem dL_law_261 : decode cL_law 261 = .ok (.aload_n 0, 1) := by decide +kernel
theorem dL_law_262 : decode cL_law 262 = .ok (.iload_n 3, 1) := by decide +kernel
theorem dL_law_263 : decode cL_law 263 = .ok (.iconst 1, 1) := by decide +kernel
theorem dL_law_264 : decode cL_law 264 = .ok (.iadd, 1) := by decide +kernel
theorem dL_law_265 : decode cL_law 265 = .ok (.iaload, 1) := by decide +kernel
theorem dL_law_266 : decode cL_law 266 = .ok (.invokevirtual 31, 3) := by decide +kernel
theorem dL_law_269 : decode cL_law 269 = .ok (.if_icmp .eq 447, 3) := by decide +kernel
theorem dL_law_272 : decode cL_law 272 = .ok (.iconst 0, 1) := by decide +kernel
theorem dL_law_273 : decode cL_law 273 = .ok (.ireturn, 1) := by decide +kernel
theorem dL_law_274 : decode cL_law 274 = .ok (.aload_n 1, 1) := by decide +kernel
theorem dL_law_275 : decode cL_law 275 = .ok (.aload_n 0, 1) := by decide +kernel
theorem dL_law_276 : decode cL_law 276 = .ok (.iload_n 3, 1) := by decide +kernel
theorem dL_law_277 : decode cL_law 277 = .ok (.iconst 1, 1) := by decide +kernel
theorem dL_law_278 : decode cL_law 278 = .ok (.iadd, 1) := by decide +kernel
theorem dL_law_279 : decode cL_law 279 = .ok (.iaload, 1) := by decide +kernel
theorem dL_law_280 : decode cL_law 280 = .ok (.aload_n 0, 1) := by decide +kernel
theorem dL_law_281 : decode cL_law 281 = .ok (.iload_n 3, 1) := by decide +kernel
theorem dL_law_282 : decode cL_law 282 = .ok (.iconst 2, 1) := by decide +kernel
theorem dL_law_283 : decode cL_law 283 = .ok (.iadd, 1) := by decide +kernel
theorem dL_law_284 : decode cL_law 284 = .ok (.iaload, 1) := by decide +kernel
theorem dL_law_285 : decode cL_law 285 = .ok (.aload_n 0, 1) := by decide +kernel
theorem dL_law_286 : decode cL_law 286 = .ok (.iload_n 3, 1) := by decide +kernel
theorem dL_law_287 : decode cL_law 287 = .ok (.iconst 3, 1) := by decide +kernel
theorem dL_law_288 : decode cL_law 288 = .ok (.iadd, 1) := by decide +kernel
theorem dL_law_289 : decode cL_law 289 = .ok (.iaload, 1) := by decide +kernel
theorem dL_law_290 : decode cL_law 290 = .ok (.invokevirtual 32, 3) := by decide +kernel
theorem dL_law_293 : decode cL_law 293 = .ok (.aload_n 2, 1) := by decide +kernel
theorem dL_law_294 : decode cL_law 294 = .ok (.aload_n 0, 1) := by decide +kernel
theorem dL_law_295 : decode cL_law 295 = .ok (.iload_n 3, 1) := by decide +kernel
theorem dL_law_296 : decode cL_law 296 = .ok (.iconst 1, 1) := by decide +kernel
theorem dL_law_297 : decode cL_law 297 = .ok (.iadd, 1) := by decide +kernel
theorem dL_law_298 : decode cL_law 298 = .ok (.iaload, 1) := by decide +kernel
theorem dL_law_299 : decode cL_law 299 = .ok (.aload_n 0, 1) := by decide +kernel
theorem dL_law_300 : decode cL_law 300 = .ok (.iload_n 3, 1) := by decide +kernel
theorem dL_law_301 : decode cL_law 301 = .ok (.iconst 2, 1) := by decide +kernel
theorem dL_law_302 : decode cL_law 302 = .ok (.iadd, 1) := by decide +kernel
theorem dL_law_303 : decode cL_law 303 = .ok (.iaload, 1) := by decide +kernel
theorem dL_law_304 : decode cL_law 304 = .ok (.aload_n 0, 1) := by decide +kernel
theorem dL_law_305 : decode cL_law 305 = .ok (.iload_n 3, 1) := by decide +kernel
theorem dL_law_306 : decode cL_law 306 = .ok (.iconst 3, 1) := by decide +kernel
theorem dL_law_307 : decode cL_law 307 = .ok (.iadd, 1) := by decide +kernel
theorem dL_law_308 : decode cL_law 308 = .ok (.iaload, 1) := by decide +kernel
theorem dL_law_309 : decode cL_law 309 = .ok (.invokevirtual 35, 3) := by decide +kernel
theorem dL_law_312 : decode cL_law 312 = .ok (.if_icmp .eq 404, 3) := by decide +kernel
theorem dL_law_315 : decode cL_law 315 = .ok (.iconst 0, 1) := by decide +kernel
theorem dL_law_316 : decode cL_law 316 = .ok (.ireturn, 1) := by decide +kernel
theorem dL_law_317 : decode cL_law 317 = .ok (.aload_n 1, 1) := by decide +kernel
theorem dL_law_318 : decode cL_law 318 = .ok (.aload_n 0, 1) := by decide +kernel
theorem dL_law_319 : decode cL_law 319 = .ok (.iload_n 3, 1) := by decide +kernel
theorem dL_law_320 : decode cL_law 320 = .ok (.iconst 1, 1) := by decide +kernel
theorem dL_law_321 : decode cL_law 321 = .ok (.iadd, 1) := by decide +kernel
theorem dL_law_322 : decode cL_law 322 = .ok (.iaload, 1) := by decide +kernel
theorem dL_law_323 : decode cL_law 323 = .ok (.invokevirtual 36, 3) := by decide +kernel
theorem dL_law_326 : decode cL_law 326 = .ok (.aload_n 2, 1) := by decide +kernel
theorem dL_law_327 : decode cL_law 327 = .ok (.aload_n 0, 1) := by decide +kernel
theorem dL_law_328 : decode cL_law 328 = .ok (.iload_n 3, 1) := by decide +kernel
theorem dL_law_329 : decode cL_law 329 = .ok (.iconst 1, 1) := by decide +kernel
theorem dL_law_330 : decode cL_law 330 = .ok (.iadd, 1) := by decide +kernel
theorem dL_law_331 : decode cL_law 331 = .ok (.iaload, 1) := by decide +kernel
theorem dL_law_332 : decode cL_law 332 = .ok (.invokevirtual 39, 3) := by decide +kernel
theorem dL_law_335 : decode cL_law 335 = .ok (.if_icmp .eq 381, 3) := by decide +kernel
theorem dL_law_338 : decode cL_law 338 = .ok (.iconst 0, 1) := by decide +kernel
theorem dL_law_339 : decode cL_law 339 = .ok (.ireturn, 1) := by decide +kernel
theorem dL_law_340 : decode cL_law 340 = .ok (.aload_n 1, 1) := by decide +kernel
theorem dL_law_341 : decode cL_law 341 = .ok (.aload_n 0, 1) := by decide +kernel
theorem dL_law_342 : decode cL_law 342 = .ok (.iload_n 3, 1) := by decide +kernel
theorem dL_law_343 : decode cL_law 343 = .ok (.iconst 1, 1) := by decide +kernel
theorem dL_law_344 : decode cL_law 344 = .ok (.iadd, 1) := by decide +kernel
theorem dL_law_345 : decode cL_law 345 = .ok (.iaload, 1) := by decide +kernel
theorem dL_law_346 : decode cL_law 346 = .ok (.invokevirtual 40, 3) := by decide +kernel
theorem dL_law_349 : decode cL_law 349 = .ok (.aload_n 2, 1) := by decide +kernel
theorem dL_law_350 : decode cL_law 350 = .ok (.aload_n 0, 1) := by decide +kernel
theorem dL_law_351 : decode cL_law 351 = .ok (.iload_n 3, 1) := by decide +kernel
theorem dL_law_352 : decode cL_law 352 = .ok (.iconst 1, 1) := by decide +kernel
theorem dL_law_353 : decode cL_law 353 = .ok (.iadd, 1) := by decide +kernel
theorem dL_law_354 : decode cL_law 354 = .ok (.iaload, 1) := by decide +kernel
theorem dL_law_355 : decode cL_law 355 = .ok (.invokevirtual 43, 3) := by decide +kernel
theorem dL_law_358 : decode cL_law 358 = .ok (.if_icmp .eq 358, 3) := by decide +kernel
theorem dL_law_361 : decode cL_law 361 = .ok (.iconst 0, 1) := by decide +kernel
theorem dL_law_362 : decode cL_law 362 = .ok (.ireturn, 1) := by decide +kernel
theorem dL_law_363 : decode cL_law 363 = .ok (.aload_n 1, 1) := by decide +kernel
theorem dL_law_364 : decode cL_law 364 = .ok (.aload_n 0, 1) := by decide +kernel
theorem dL_law_365 : decode cL_law 365 = .ok (.iload_n 3, 1) := by decide +kernel
theorem dL_law_366 : decode cL_law 366 = .ok (.iconst 1, 1) := by decide +kernel
theorem dL_law_367 : decode cL_law 367 = .ok (.iadd, 1) := by decide +kernel
theorem dL_law_368 : decode cL_law 368 = .ok (.iaload, 1) := by decide +kernel
theorem dL_law_369 : decode cL_law 369 = .ok (.invokevirtual 44, 3) := by decide +kernel
theorem dL_law_372 : decode cL_law 372 = .ok (.aload_n 2, 1) := by decide +kernel
theorem dL_law_373 : decode cL_law 373 = .ok (.aload_n 0, 1) := by decide +kernel
theorem dL_law_374 : decode cL_law 374 = .ok (.iload_n 3, 1) := by decide +kernel
theorem dL_law_375 : decode cL_law 375 = .ok (.iconst 1, 1) := by decide +kernel
theorem dL_law_376 : decode cL_law 376 = .ok (.iadd, 1) := by decide +kernel
theorem dL_law_377 : decode cL_law 377 = .ok (.iaload, 1) := by decide +kernel
theorem dL_law_378 : decode cL_law 378 = .ok (.invokevirtual 47, 3) := by decide +kernel
theorem dL_law_381 : decode cL_law 381 = .ok (.if_icmp .eq 335, 3) := by decide +kernel
theorem dL_law_384 : decode cL_law 384 = .ok (.iconst 0, 1) := by decide +kernel
theorem dL_law_385 : decode cL_law 385 = .ok (.ireturn, 1) := by decide +kernel
theorem dL_law_386 : decode cL_law 386 = .ok (.aload_n 1, 1) := by decide +kernel
theorem dL_law_387 : decode cL_law 387 = .ok (.aload_n 0, 1) := by decide +kernel
theorem dL_law_388 : decode cL_law 388 = .ok (.iload_n 3, 1) := by decide +kernel
theorem dL_law_389 : decode cL_law 389 = .ok (.iconst 1, 1) := by decide +kernel
theorem dL_law_390 : decode cL_law 390 = .ok (.iadd, 1) := by decide +kernel
theorem dL_law_391 : decode cL_law 391 = .ok (.iaload, 1) := by decide +kernel
theorem dL_law_392 : decode cL_law 392 = .ok (.invokevirtual 48, 3) := by decide +kernel
theorem dL_law_395 : decode cL_law 395 = .ok (.aload_n 2, 1) := by decide +kernel
theorem dL_law_396 : decode cL_law 396 = .ok (.aload_n 0, 1) := by decide +kernel
theorem dL_law_397 : decode cL_law 397 = .ok (.iload_n 3, 1) := by decide +kernel
theorem dL_law_398 : decode cL_law 398 = .ok (.iconst 1, 1) := by decide +kernel
theorem dL_law_399 : decode cL_law 399 = .ok (.iadd, 1) := by decide +kernel
theorem dL_law_400 : decode cL_law 400 = .ok (.iaload, 1) := by decide +kernel
theorem dL_law_401 : decode cL_law 401 = .ok (.invokevirtual 51, 3) := by decide +kernel
theorem dL_law_404 : decode cL_law 404 = .ok (.if_icmp .eq 312, 3) := by decide +kernel
theorem dL_law_407 : decode cL_law 407 = .ok (.iconst 0, 1) := by decide +kernel
theorem dL_law_408 : decode cL_law 408 = .ok (.ireturn, 1) := by decide +kernel
theorem dL_law_409 : decode cL_law 409 = .ok (.aload_n 1, 1) := by decide +kernel
theorem dL_law_410 : decode cL_law 410 = .ok (.aload_n 0, 1) := by decide +kernel
theorem dL_law_411 : decode cL_law 411 = .ok (.iload_n 3, 1) := by decide +kernel
theorem dL_law_412 : decode cL_law 412 = .ok (.iconst 1, 1) := by decide +kernel
theorem dL_law_413 : decode cL_law 413 = .ok (.iadd, 1) := by decide +kernel
theorem dL_law_414 : decode cL_law 414 = .ok (.iaload, 1) := by decide +kernel
theorem dL_law_415 : decode cL_law 415 = .ok (.aload_n 0, 1) := by decide +kernel
theorem dL_law_416 : decode cL_law 416 = .ok (.iload_n 3, 1) := by decide +kernel
theorem dL_law_417 : decode cL_law 417 = .ok (.iconst 2, 1) := by decide +kernel
theorem dL_law_418 : decode cL_law 418 = .ok (.iadd, 1) := by decide +kernel
theorem dL_law_419 : decode cL_law 419 = .ok (.iaload, 1) := by decide +kernel
theorem dL_law_420 : decode cL_law 420 = .ok (.invokevirtual 52, 3) := by decide +kernel
theorem dL_law_423 : decode cL_law 423 = .ok (.aload_n 2, 1) := by decide +kernel
theorem dL_law_424 : decode cL_law 424 = .ok (.aload_n 0, 1) := by decide +kernel
theorem dL_law_425 : decode cL_law 425 = .ok (.iload_n 3, 1) := by decide +kernel
theorem dL_law_426 : decode cL_law 426 = .ok (.iconst 1, 1) := by decide +kernel
theorem dL_law_427 : decode cL_law 427 = .ok (.iadd, 1) := by decide +kernel
theorem dL_law_428 : decode cL_law 428 = .ok (.iaload, 1) := by decide +kernel
theorem dL_law_429 : decode cL_law 429 = .ok (.aload_n 0, 1) := by decide +kernel
theorem dL_law_430 : decode cL_law 430 = .ok (.iload_n 3, 1) := by decide +kernel
theorem dL_law_431 : decode cL_law 431 = .ok (.iconst 2, 1) := by decide +kernel
theorem dL_law_432 : decode cL_law 432 = .ok (.iadd, 1) := by decide +kernel
theorem dL_law_433 : decode cL_law 433 = .ok (.iaload, 1) := by decide +kernel
theorem dL_law_434 : decode cL_law 434 = .ok (.invokevirtual 55, 3) := by decide +kernel
theorem dL_law_437 : decode cL_law 437 = .ok (.if_icmp .eq 279, 3) := by decide +kernel
theorem dL_law_440 : decode cL_law 440 = .ok (.iconst 0, 1) := by decide +kernel
theorem dL_law_441 : decode cL_law 441 = .ok (.ireturn, 1) := by decide +kernel
theorem dL_law_442 : decode cL_law 442 = .ok (.aload_n 1, 1) := by decide +kernel
theorem dL_law_443 : decode cL_law 443 = .ok (.aload_n 0, 1) := by decide +kernel
theorem dL_law_444 : decode cL_law 444 = .ok (.iload_n 3, 1) := by decide +kernel
theorem dL_law_445 : decode cL_law 445 = .ok (.iconst 1, 1) := by decide +kernel
theorem dL_law_446 : decode cL_law 446 = .ok (.iadd, 1) := by decide +kernel
theorem dL_law_447 : decode cL_law 447 = .ok (.iaload, 1) := by decide +kernel
theorem dL_law_448 : decode cL_law 448 = .ok (.aload_n 0, 1) := by decide +kernel
theorem dL_law_449 : decode cL_law 449 = .ok (.iload_n 3, 1) := by decide +kernel
theorem dL_law_450 : decode cL_law 450 = .ok (.iconst 2, 1) := by decide +kernel
theorem dL_law_451 : decode cL_law 451 = .ok (.iadd, 1) := by decide +kernel
theorem dL_law_452 : decode cL_law 452 = .ok (.iaload, 1) := by decide +kernel
theorem dL_law_453 : decode cL_law 453 = .ok (.invokevirtual 56, 3) := by decide +kernel
theorem dL_law_456 : decode cL_law 456 = .ok (.aload_n 2, 1) := by decide +kernel
theorem dL_law_457 : decode cL_law 457 = .ok (.aload_n 0, 1) := by decide +kernel
theorem dL_law_458 : decode cL_law 458 = .ok (.iload_n 3, 1) := by decide +kernel
theorem dL_law_459 : decode cL_law 459 = .ok (.iconst 1, 1) := by decide +kernel
theorem dL_law_460 : decode cL_law 460 = .ok (.iadd, 1) := by decide +kernel
theorem dL_law_461 : decode cL_law 461 = .ok (.iaload, 1) := by decide +kernel
theorem dL_law_462 : decode cL_law 462 = .ok (.aload_n 0, 1) := by decide +kernel
theorem dL_law_463 : decode cL_law 463 = .ok (.iload_n 3, 1) := by decide +kernel
theorem dL_law_464 : decode cL_law 464 = .ok (.iconst 2, 1) := by decide +kernel
theorem dL_law_465 : decode cL_law 465 = .ok (.iadd, 1) := by decide +kernel
theorem dL_law_466 : decode cL_law 466 = .ok (.iaload, 1) := by decide +kernel
theorem dL_law_467 : decode cL_law 467 = .ok (.invokevirtual 59, 3) := by decide +kernel
theorem dL_law_470 : decode cL_law 470 = .ok (.if_icmp .eq 246, 3) := by decide +kernel
theorem dL_law_473 : decode cL_law 473 = .ok (.iconst 0, 1) := by decide +kernel
theorem dL_law_474 : decode cL_law 474 = .ok (.ireturn, 1) := by decide +kernel
theorem dL_law_475 : decode cL_law 475 = .ok (.aload_n 1, 1) := by decide +kernel
theorem dL_law_476 : decode cL_law 476 = .ok (.aload_n 0, 1) := by decide +kernel
theorem dL_law_477 : decode cL_law 477 = .ok (.iload_n 3, 1) := by decide +kernel
theorem dL_law_478 : decode cL_law 478 = .ok (.iconst 1, 1) := by decide +kernel
theorem dL_law_479 : decode cL_law 479 = .ok (.iadd, 1) := by decide +kernel
theorem dL_law_480 : decode cL_law 480 = .ok (.iaload, 1) := by decide +kernel
theorem dL_law_481 : decode cL_law 481 = .ok (.aload_n 0, 1) := by decide +kernel
theorem dL_law_482 : decode cL_law 482 = .ok (.iload_n 3, 1) := by decide +kernel
theorem dL_law_483 : decode cL_law 483 = .ok (.iconst 2, 1) := by decide +kernel
theorem dL_law_484 : decode cL_law 484 = .ok (.iadd, 1) := by decide +kernel
theorem dL_law_485 : decode cL_law 485 = .ok (.iaload, 1) := by decide +kernel
theorem dL_law_486 : decode cL_law 486 = .ok (.invokevirtual 60, 3) := by decide +kernel
theorem dL_law_489 : decode cL_law 489 = .ok (.aload_n 2, 1) := by decide +kernel
theorem dL_law_490 : decode cL_law 490 = .ok (.aload_n 0, 1) := by decide +kernel
theorem dL_law_491 : decode cL_law 491 = .ok (.iload_n 3, 1) := by decide +kernel
theorem dL_law_492 : decode cL_law 492 = .ok (.iconst 1, 1) := by decide +kernel
theorem dL_law_493 : decode cL_law 493 = .ok (.iadd, 1) := by decide +kernel
theorem dL_law_494 : decode cL_law 494 = .ok (.iaload, 1) := by decide +kernel
theorem dL_law_495 : decode cL_law 495 = .ok (.aload_n 0, 1) := by decide +kernel
theorem dL_law_496 : decode cL_law 496 = .ok (.iload_n 3, 1) := by decide +kernel
theorem dL_law_497 : decode cL_law 497 = .ok (.iconst 2, 1) := by decide +kernel
theorem dL_law_498 : decode cL_law 498 = .ok (.iadd, 1) := by decide +kernel
theorem dL_law_499 : decode cL_law 499 = .ok (.iaload, 1) := by decide +kernel
theorem dL_law_500 : decode cL_law 500 = .ok (.invokevirtual 63, 3) := by decide +kernel
theorem dL_law_503 : decode cL_law 503 = .ok (.if_icmp .eq 213, 3) := by decide +kernel
theorem dL_law_506 : decode cL_law 506 = .ok (.iconst 0, 1) := by decide +kernel
theorem dL_law_507 : decode cL_law 507 = .ok (.ireturn, 1) := by decide +kernel
theorem dL_law_508 : decode cL_law 508 = .ok (.aload_n 1, 1) := by decide +kernel
theorem dL_law_509 : decode cL_law 509 = .ok (.aload_n 0, 1) := by decide +kernel
theorem dL_law_510 : decode cL_law 510 = .ok (.iload_n 3, 1) := by decide +kernel
theorem dL_law_511 : decode cL_law 511 = .ok (.iconst 1, 1) := by decide +kernel
theorem dL_law_512 : decode cL_law 512 = .ok (.iadd, 1) := by decide +kernel
theorem dL_law_513 : decode cL_law 513 = .ok (.iaload, 1) := by decide +kernel
theorem dL_law_514 : decode cL_law 514 = .ok (.aload_n 0, 1) := by decide +kernel
theorem dL_law_515 : decode cL_law 515 = .ok (.iload_n 3, 1) := by decide +kernel
theorem dL_law_516 : decode cL_law 516 = .ok (.iconst 2, 1) := by decide +kernel
theorem dL_law_517 : decode cL_law 517 = .ok (.iadd, 1) := by decide +kernel
theorem dL_law_518 : decode cL_law 518 = .ok (.iaload, 1) := by decide +kernel
theorem dL_law_519 : decode cL_law 519 = .ok (.invokevirtual 64, 3) := by decide +kernel
theorem dL_law_522 : decode cL_law 522 = .ok (.aload_n 2, 1) := by decide +kernel
theorem dL_law_523 : decode cL_law 523 = .ok (.aload_n 0, 1) := by decide +kernel
theorem dL_law_524 : decode cL_law 524 = .ok (.iload_n 3, 1) := by decide +kernel
theorem dL_law_525 : decode cL_law 525 = .ok (.iconst 1, 1) := by decide +kernel
theorem dL_law_526 : decode cL_law 526 = .ok (.iadd, 1) := by decide +kernel
theorem dL_law_527 : decode cL_law 527 = .ok (.iaload, 1) := by decide +kernel
theorem dL_law_528 : decode cL_law 528 = .ok (.aload_n 0, 1) := by decide +kernel
theorem dL_law_529 : decode cL_law 529 = .ok (.iload_n 3, 1) := by decide +kernel
theorem dL_law_530 : decode cL_law 530 = .ok (.iconst 2, 1) := by decide +kernel
theorem dL_law_531 : decode cL_law 531 = .ok (.iadd, 1) := by decide +kernel
theorem dL_law_532 : decode cL_law 532 = .ok (.iaload, 1) := by decide +kernel
theorem dL_law_533 : decode cL_law 533 = .ok (.invokevirtual 67, 3) := by decide +kernel
theorem dL_law_536 : decode cL_law 536 = .ok (.if_icmp .eq 180, 3) := by decide +kernel
theorem dL_law_539 : decode cL_law 539 = .ok (.iconst 0, 1) := by decide +kernel
theorem dL_law_540 : decode cL_law 540 = .ok (.ireturn, 1) := by decide +kernel
theorem dL_law_541 : decode cL_law 541 = .ok (.aload_n 1, 1) := by decide +kernel
theorem dL_law_542 : decode cL_law 542 = .ok (.aload_n 0, 1) := by decide +kernel
theorem dL_law_543 : decode cL_law 543 = .ok (.iload_n 3, 1) := by decide +kernel
theorem dL_law_544 : decode cL_law 544 = .ok (.iconst 1, 1) := by decide +kernel
theorem dL_law_545 : decode cL_law 545 = .ok (.iadd, 1) := by decide +kernel
theorem dL_law_546 : decode cL_law 546 = .ok (.iaload, 1) := by decide +kernel
theorem dL_law_547 : decode cL_law 547 = .ok (.invokevirtual 68, 3) := by decide +kernel
theorem dL_law_550 : decode cL_law 550 = .ok (.aload_n 2, 1) := by decide +kernel
theorem dL_law_551 : decode cL_law 551 = .ok (.aload_n 0, 1) := by decide +kernel
theorem dL_law_552 : decode cL_law 552 = .ok (.iload_n 3, 1) := by decide +kernel
theorem dL_law_553 : decode cL_law 553 = .ok (.iconst 1, 1) := by decide +kernel
theorem dL_law_554 : decode cL_law 554 = .ok (.iadd, 1) := by decide +kernel
theorem dL_law_555 : decode cL_law 555 = .ok (.iaload, 1) := by decide +kernel
theorem dL_law_556 : decode cL_law 556 = .ok (.invokevirtual 71, 3) := by decide +kernel
theorem dL_law_559 : decode cL_law 559 = .ok (.if_icmp .eq 157, 3) := by decide +kernel
theorem dL_law_562 : decode cL_law 562 = .ok (.iconst 0, 1) := by decide +kernel
theorem dL_law_563 : decode cL_law 563 = .ok (.ireturn, 1) := by decide +kernel
theorem dL_law_564 : decode cL_law 564 = .ok (.aload_n 1, 1) := by decide +kernel
theorem dL_law_565 : decode cL_law 565 = .ok (.aload_n 0, 1) := by decide +kernel
theorem dL_law_566 : decode cL_law 566 = .ok (.iload_n 3, 1) := by decide +kernel
theorem dL_law_567 : decode cL_law 567 = .ok (.iconst 1, 1) := by decide +kernel
theorem dL_law_568 : decode cL_law 568 = .ok (.iadd, 1) := by decide +kernel
theorem dL_law_569 : decode cL_law 569 = .ok (.iaload, 1) := by decide +kernel
theorem dL_law_570 : decode cL_law 570 = .ok (.aload_n 0, 1) := by decide +kernel
theorem dL_law_571 : decode cL_law 571 = .ok (.iload_n 3, 1) := by decide +kernel
theorem dL_law_572 : decode cL_law 572 = .ok (.iconst 2, 1) := by decide +kernel
theorem dL_law_573 : decode cL_law 573 = .ok (.iadd, 1) := by decide +kernel
theorem dL_law_574 : decode cL_law 574 = .ok (.iaload, 1) := by decide +kernel
theorem dL_law_575 : decode cL_law 575 = .ok (.invokevirtual 72, 3) := by decide +kernel
theorem dL_law_578 : decode cL_law 578 = .ok (.aload_n 2, 1) := by decide +kernel
theorem dL_law_579 : decode cL_law 579 = .ok (.aload_n 0, 1) := by decide +kernel
theorem dL_law_580 : decode cL_law 580 = .ok (.iload_n 3, 1) := by decide +kernel
theorem dL_law_581 : decode cL_law 581 = .ok (.iconst 1, 1) := by decide +kernel
theorem dL_law_582 : decode cL_law 582 = .ok (.iadd, 1) := by decide +kernel
theorem dL_law_583 : decode cL_law 583 = .ok (.iaload, 1) := by decide +kernel
theorem dL_law_584 : decode cL_law 584 = .ok (.aload_n 0, 1) := by decide +kernel
theorem dL_law_585 : decode cL_law 585 = .ok (.iload_n 3, 1) := by decide +kernel
theorem dL_law_586 : decode cL_law 586 = .ok (.iconst 2, 1) := by decide +kernel
theorem dL_law_587 : decode cL_law 587 = .ok (.iadd, 1) := by decide +kernel
theorem dL_law_588 : decode cL_law 588 = .ok (.iaload, 1) := by decide +kernel
theorem dL_law_589 : decode cL_law 589 = .ok (.invokevirtual 75, 3) := by decide +kernel
theorem dL_law_592 : decode cL_law 592 = .ok (.if_icmp .eq 124, 3) := by decide +kernel
theorem dL_law_595 : decode cL_law 595 = .ok (.iconst 0, 1) := by decide +kernel
theorem dL_law_596 : decode cL_law 596 = .ok (.ireturn, 1) := by decide +kernel
theorem dL_law_597 : decode cL_law 597 = .ok (.aload_n 1, 1) := by decide +kernel
theorem dL_law_598 : decode cL_law 598 = .ok (.aload_n 0, 1) := by decide +kernel
theorem dL_law_599 : decode cL_law 599 = .ok (.iload_n 3, 1) := by decide +kernel
theorem dL_law_600 : decode cL_law 600 = .ok (.iconst 1, 1) := by decide +kernel
theorem dL_law_601 : decode cL_law 601 = .ok (.iadd, 1) := by decide +kernel
theorem dL_law_602 : decode cL_law 602 = .ok (.iaload, 1) := by decide +kernel
theorem dL_law_603 : decode cL_law 603 = .ok (.aload_n 0, 1) := by decide +kernel
theorem dL_law_604 : decode cL_law 604 = .ok (.iload_n 3, 1) := by decide +kernel
theorem dL_law_605 : decode cL_law 605 = .ok (.iconst 2, 1) := by decide +kernel
theorem dL_law_606 : decode cL_law 606 = .ok (.iadd, 1) := by decide +kernel
theorem dL_law_607 : decode cL_law 607 = .ok (.iaload, 1) := by decide +kernel
theorem dL_law_608 : decode cL_law 608 = .ok (.invokevirtual 76, 3) := by decide +kernel
theorem dL_law_611 : decode cL_law 611 = .ok (.aload_n 2, 1) := by decide +kernel
theorem dL_law_612 : decode cL_law 612 = .ok (.aload_n 0, 1) := by decide +kernel
theorem dL_law_613 : decode cL_law 613 = .ok (.iload_n 3, 1) := by decide +kernel
theorem dL_law_614 : decode cL_law 614 = .ok (.iconst 1, 1) := by decide +kernel
theorem dL_law_615 : decode cL_law 615 = .ok (.iadd, 1) := by decide +kernel
theorem dL_law_616 : decode cL_law 616 = .ok (.iaload, 1) := by decide +kernel
theorem dL_law_617 : decode cL_law 617 = .ok (.aload_n 0, 1) := by decide +kernel
theorem dL_law_618 : decode cL_law 618 = .ok (.iload_n 3, 1) := by decide +kernel
theorem dL_law_619 : decode cL_law 619 = .ok (.iconst 2, 1) := by decide +kernel
theorem dL_law_620 : decode cL_law 620 = .ok (.iadd, 1) := by decide +kernel
theorem dL_law_621 : decode cL_law 621 = .ok (.iaload, 1) := by decide +kernel
theorem dL_law_622 : decode cL_law 622 = .ok (.invokevirtual 79, 3) := by decide +kernel
theorem dL_law_625 : decode cL_law 625 = .ok (.if_icmp .eq 91, 3) := by decide +kernel
theorem dL_law_628 : decode cL_law 628 = .ok (.iconst 0, 1) := by decide +kernel
theorem dL_law_629 : decode cL_law 629 = .ok (.ireturn, 1) := by decide +kernel
theorem dL_law_630 : decode cL_law 630 = .ok (.aload_n 1, 1) := by decide +kernel
theorem dL_law_631 : decode cL_law 631 = .ok (.aload_n 0, 1) := by decide +kernel
theorem dL_law_632 : decode cL_law 632 = .ok (.iload_n 3, 1) := by decide +kernel
theorem dL_law_633 : decode cL_law 633 = .ok (.iconst 1, 1) := by decide +kernel
theorem dL_law_634 : decode cL_law 634 = .ok (.iadd, 1) := by decide +kernel
theorem dL_law_635 : decode cL_law 635 = .ok (.iaload, 1) := by decide +kernel
theorem dL_law_636 : decode cL_law 636 = .ok (.invokevirtual 80, 3) := by decide +kernel
theorem dL_law_639 : decode cL_law 639 = .ok (.aload_n 2, 1) := by decide +kernel
theorem dL_law_640 : decode cL_law 640 = .ok (.aload_n 0, 1) := by decide +kernel
theorem dL_law_641 : decode cL_law 641 = .ok (.iload_n 3, 1) := by decide +kernel
theorem dL_law_642 : decode cL_law 642 = .ok (.iconst 1, 1) := by decide +kernel
theorem dL_law_643 : decode cL_law 643 = .ok (.iadd, 1) := by decide +kernel
theorem dL_law_644 : decode cL_law 644 = .ok (.iaload, 1) := by decide +kernel
theorem dL_law_645 : decode cL_law 645 = .ok (.invokevirtual 83, 3) := by decide +kernel
theorem dL_law_648 : decode cL_law 648 = .ok (.if_icmp .eq 68, 3) := by decide +kernel
theorem dL_law_651 : decode cL_law 651 = .ok (.iconst 0, 1) := by decide +kernel
theorem dL_law_652 : decode cL_law 652 = .ok (.ireturn, 1) := by decide +kernel
theorem dL_law_653 : decode cL_law 653 = .ok (.aload_n 1, 1) := by decide +kernel
theorem dL_law_654 : decode cL_law 654 = .ok (.invokevirtual 84, 3) := by decide +kernel
theorem dL_law_657 : decode cL_law 657 = .ok (.aload_n 2, 1) := by decide +kernel
theorem dL_law_658 : decode cL_law 658 = .ok (.invokevirtual 88, 3) := by decide +kernel
theorem dL_law_661 : decode cL_law 661 = .ok (.if_icmp .eq 55, 3) := by decide +kernel
theorem dL_law_664 : decode cL_law 664 = .ok (.iconst 0, 1) := by decide +kernel
theorem dL_law_665 : decode cL_law 665 = .ok (.ireturn, 1) := by decide +kernel
theorem dL_law_666 : decode cL_law 666 = .ok (.aload_n 1, 1) := by decide +kernel
theorem dL_law_667 : decode cL_law 667 = .ok (.invokevirtual 89, 3) := by decide +kernel
theorem dL_law_670 : decode cL_law 670 = .ok (.aload_n 2, 1) := by decide +kernel
theorem dL_law_671 : decode cL_law 671 = .ok (.invokevirtual 92, 3) := by decide +kernel
theorem dL_law_674 : decode cL_law 674 = .ok (.if_icmp .eq 42, 3) := by decide +kernel
theorem dL_law_677 : decode cL_law 677 = .ok (.iconst 0, 1) := by decide +kernel
theorem dL_law_678 : decode cL_law 678 = .ok (.ireturn, 1) := by decide +kernel
theorem dL_law_679 : decode cL_law 679 = .ok (.aload_n 1, 1) := by decide +kernel
theorem dL_law_680 : decode cL_law 680 = .ok (.aload_n 0, 1) := by decide +kernel
theorem dL_law_681 : decode cL_law 681 = .ok (.iload_n 3, 1) := by decide +kernel
theorem dL_law_682 : decode cL_law 682 = .ok (.iconst 1, 1) := by decide +kernel
theorem dL_law_683 : decode cL_law 683 = .ok (.iadd, 1) := by decide +kernel
theorem dL_law_684 : decode cL_law 684 = .ok (.iaload, 1) := by decide +kernel
theorem dL_law_685 : decode cL_law 685 = .ok (.invokevirtual 93, 3) := by decide +kernel
theorem dL_law_688 : decode cL_law 688 = .ok (.aload_n 2, 1) := by decide +kernel
theorem dL_law_689 : decode cL_law 689 = .ok (.aload_n 0, 1) := by decide +kernel
theorem dL_law_690 : decode cL_law 690 = .ok (.iload_n 3, 1) := by decide +kernel
theorem dL_law_691 : decode cL_law 691 = .ok (.iconst 1, 1) := by decide +kernel
theorem dL_law_692 : decode cL_law 692 = .ok (.iadd, 1) := by decide +kernel
theorem dL_law_693 : decode cL_law 693 = .ok (.iaload, 1) := by decide +kernel
theorem dL_law_694 : decode cL_law 694 = .ok (.invokevirtual 96, 3) := by decide +kernel
theorem dL_law_697 : decode cL_law 697 = .ok (.if_icmp .eq 19, 3) := by decide +kernel
theorem dL_law_700 : decode cL_law 700 = .ok (.iconst 0, 1) := by decide +kernel
theorem dL_law_701 : decode cL_law 701 = .ok (.ireturn, 1) := by decide +kernel
theorem dL_law_702 : decode cL_law 702 = .ok (.aload_n 1, 1) := by decide +kernel
theorem dL_law_703 : decode cL_law 703 = .ok (.invokevirtual 97, 3) := by decide +kernel
theorem dL_law_706 : decode cL_law 706 = .ok (.aload_n 2, 1) := by decide +kernel
theorem dL_law_707 : decode cL_law 707 = .ok (.invokevirtual 101, 3) := by decide +kernel
theorem dL_law_710 : decode cL_law 710 = .ok (.lcmp, 1) := by decide +kernel
theorem dL_law_711 : decode cL_law 711 = .ok (.ifCond .eq 5, 3) := by decide +kernel
theorem dL_law_714 : decode cL_law 714 = .ok (.iconst 0, 1) := by decide +kernel
theorem dL_law_715 : decode cL_law 715 = .ok (.ireturn, 1) := by decide +kernel
theorem dL_law_716 : decode cL_law 716 = .ok (.iinc 3 4, 3) := by decide +kernel
theorem dL_law_719 : decode cL_law 719 = .ok (.goto (-701), 3) := by decide +kernel
theorem dL_law_722 : decode cL_law 722 = .ok (.iconst 1, 1) := by decide +kernel
theorem dL_law_723 : decode cL_law 723 = .ok (.ireturn, 1) := by decide +kernel

theorem dX8_no_1 : decode cX8_no 1 = .ok (.getfield 7, 3) := by decide +kernel
theorem dX8_no_4 : decode cX8_no 4 = .ok (.iconst 1, 1) := by decide +kernel
theorem dX8_no_5 : decode cX8_no 5 = .ok (.dup2, 1) := by decide +kernel
theorem dX8_no_6 : decode cX8_no 6 = .ok (.iaload, 1) := by decide +kernel
theorem dX8_no_7 : decode cX8_no 7 = .ok (.iconst 1, 1) := by decide +kernel
theorem dX8_no_8 : decode cX8_no 8 = .ok (.iadd, 1) := by decide +kernel
theorem dX8_no_9 : decode cX8_no 9 = .ok (.iastore, 1) := by decide +kernel
theorem dX8_no_10 : decode cX8_no 10 = .ok (.bipush (-3), 2) := by decide +kernel
theorem dX8_no_12 : decode cX8_no 12 = .ok (.ireturn, 1) := by decide +kernel
theorem dX8_full_0 : decode cX8_full 0 = .ok (.aload_n 0, 1) := by decide +kernel
theorem dX8_full_1 : decode cX8_full 1 = .ok (.getfield 7, 3) := by decide +kernel
theorem dX8_full_4 : decode cX8_full 4 = .ok (.iconst 2, 1) := by decide +kernel
theorem dX8_full_5 : decode cX8_full 5 = .ok (.dup2, 1) := by decide +kernel
theorem dX8_full_6 : decode cX8_full 6 = .ok (.iaload, 1) := by decide +kernel
theorem dX8_full_7 : decode cX8_full 7 = .ok (.iconst 1, 1) := by decide +kernel
theorem dX8_full_8 : decode cX8_full 8 = .ok (.iadd, 1) := by decide +kernel
theorem dX8_full_9 : decode cX8_full 9 = .ok (.iastore, 1) := by decide +kernel
theorem dX8_full_10 : decode cX8_full 10 = .ok (.bipush (-4), 2) := by decide +kernel
theorem dX8_full_12 : decode cX8_full 12 = .ok (.ireturn, 1) := by decide +kernel
theorem dX8_in_0 : decode cX8_in 0 = .ok (.iload_n 0, 1) := by decide +kernel
theorem dX8_in_1 : decode cX8_in 1 = .ok (.iload_n 1, 1) := by decide +kernel
theorem dX8_in_2 : decode cX8_in 2 = .ok (.if_icmp .lt 12, 3) := by decide +kernel
theorem dX8_in_5 : decode cX8_in 5 = .ok (.iload_n 0, 1) := by decide +kernel
theorem dX8_in_6 : decode cX8_in 6 = .ok (.iload_n 2, 1) := by decide +kernel
theorem dX8_in_7 : decode cX8_in 7 = .ok (.if_icmp .gt 7, 3) := by decide +kernel
theorem dX8_in_10 : decode cX8_in 10 = .ok (.iconst 1, 1) := by decide +kernel
theorem dX8_in_11 : decode cX8_in 11 = .ok (.goto 4, 3) := by decide +kernel
theorem dX8_in_14 : decode cX8_in 14 = .ok (.iconst 0, 1) := by decide +kernel
theorem dX8_in_15 : decode cX8_in 15 = .ok (.ireturn, 1) := by decide +kernel
theorem dX8_isSender_0 : decode cX8_isSender 0 = .ok (.iload_n 1, 1) := by decide +kernel
theorem dX8_isSender_1 : decode cX8_isSender 1 = .ok (.iconst 0, 1) := by decide +kernel
theorem dX8_isSender_2 : decode cX8_isSender 2 = .ok (.aload_n 0, 1) := by decide +kernel
theorem dX8_isSender_3 : decode cX8_isSender 3 = .ok (.getfield 13, 3) := by decide +kernel
theorem dX8_isSender_6 : decode cX8_isSender 6 = .ok (.iconst 1, 1) := by decide +kernel
theorem dX8_isSender_7 : decode cX8_isSender 7 = .ok (.isub, 1) := by decide +kernel
theorem dX8_isSender_8 : decode cX8_isSender 8 = .ok (.invokestatic 110, 3) := by decide +kernel
theorem dX8_isSender_11 : decode cX8_isSender 11 = .ok (.ireturn, 1) := by decide +kernel
theorem dX8_isGate_0 : decode cX8_isGate 0 = .ok (.iload_n 1, 1) := by decide +kernel
theorem dX8_isGate_1 : decode cX8_isGate 1 = .ok (.iconst 0, 1) := by decide +kernel
theorem dX8_isGate_2 : decode cX8_isGate 2 = .ok (.aload_n 0, 1) := by decide +kernel
theorem dX8_isGate_3 : decode cX8_isGate 3 = .ok (.getfield 17, 3) := by decide +kernel
theorem dX8_isGate_6 : decode cX8_isGate 6 = .ok (.iconst 1, 1) := by decide +kernel
theorem dX8_isGate_7 : decode cX8_isGate 7 = .ok (.isub, 1) := by decide +kernel
theorem dX8_isGate_8 : decode cX8_isGate 8 = .ok (.invokestatic 110, 3) := by decide +kernel
theorem dX8_isGate_11 : decode cX8_isGate 11 = .ok (.ireturn, 1) := by decide +kernel
theorem dX8_begins_0 : decode cX8_begins 0 = .ok (.aload_n 0, 1) := by decide +kernel
theorem dX8_begins_1 : decode cX8_begins 1 = .ok (.iconst 0, 1) := by decide +kernel
theorem dX8_begins_2 : decode cX8_begins 2 = .ok (.putfield 114, 3) := by decide +kernel
theorem dX8_begins_5 : decode cX8_begins 5 = .ok (.aload_n 0, 1) := by decide +kernel
theorem dX8_begins_6 : decode cX8_begins 6 = .ok (.iconst 0, 1) := by decide +kernel
theorem dX8_begins_7 : decode cX8_begins 7 = .ok (.putfield 117, 3) := by decide +kernel
theorem dX8_begins_10 : decode cX8_begins 10 = .ok (.aload_n 0, 1) := by decide +kernel
theorem dX8_begins_11 : decode cX8_begins 11 = .ok (.iconst 0, 1) := by decide +kernel
theorem dX8_begins_12 : decode cX8_begins 12 = .ok (.putfield 120, 3) := by decide +kernel
theorem dX8_begins_15 : decode cX8_begins 15 = .ok (.iconst 0, 1) := by decide +kernel
theorem dX8_begins_16 : decode cX8_begins 16 = .ok (.istore_n 1, 1) := by decide +kernel
theorem dX8_begins_17 : decode cX8_begins 17 = .ok (.iload_n 1, 1) := by decide +kernel
theorem dX8_begins_18 : decode cX8_begins 18 = .ok (.iconst 4, 1) := by decide +kernel
theorem dX8_begins_19 : decode cX8_begins 19 = .ok (.if_icmp .ge 52, 3) := by decide +kernel
theorem dX8_begins_22 : decode cX8_begins 22 = .ok (.aload_n 0, 1) := by decide +kernel
theorem dX8_begins_23 : decode cX8_begins 23 = .ok (.getfield 23, 3) := by decide +kernel
theorem dX8_begins_26 : decode cX8_begins 26 = .ok (.iload_n 1, 1) := by decide +kernel
theorem dX8_begins_27 : decode cX8_begins 27 = .ok (.iconst 0, 1) := by decide +kernel
theorem dX8_begins_28 : decode cX8_begins 28 = .ok (.iastore, 1) := by decide +kernel
theorem dX8_begins_29 : decode cX8_begins 29 = .ok (.aload_n 0, 1) := by decide +kernel
theorem dX8_begins_30 : decode cX8_begins 30 = .ok (.getfield 26, 3) := by decide +kernel
theorem dX8_begins_33 : decode cX8_begins 33 = .ok (.iload_n 1, 1) := by decide +kernel
theorem dX8_begins_34 : decode cX8_begins 34 = .ok (.bipush 10, 2) := by decide +kernel
theorem dX8_begins_36 : decode cX8_begins 36 = .ok (.iastore, 1) := by decide +kernel
theorem dX8_begins_37 : decode cX8_begins 37 = .ok (.aload_n 0, 1) := by decide +kernel
theorem dX8_begins_38 : decode cX8_begins 38 = .ok (.getfield 29, 3) := by decide +kernel
theorem dX8_begins_41 : decode cX8_begins 41 = .ok (.iload_n 1, 1) := by decide +kernel
theorem dX8_begins_42 : decode cX8_begins 42 = .ok (.iconst 0, 1) := by decide +kernel
theorem dX8_begins_43 : decode cX8_begins 43 = .ok (.iastore, 1) := by decide +kernel
theorem dX8_begins_44 : decode cX8_begins 44 = .ok (.aload_n 0, 1) := by decide +kernel
theorem dX8_begins_45 : decode cX8_begins 45 = .ok (.getfield 32, 3) := by decide +kernel
theorem dX8_begins_48 : decode cX8_begins 48 = .ok (.iload_n 1, 1) := by decide +kernel
theorem dX8_begins_49 : decode cX8_begins 49 = .ok (.iconst 0, 1) := by decide +kernel
theorem dX8_begins_50 : decode cX8_begins 50 = .ok (.iastore, 1) := by decide +kernel
theorem dX8_begins_51 : decode cX8_begins 51 = .ok (.aload_n 0, 1) := by decide +kernel
theorem dX8_begins_52 : decode cX8_begins 52 = .ok (.getfield 35, 3) := by decide +kernel
theorem dX8_begins_55 : decode cX8_begins 55 = .ok (.iload_n 1, 1) := by decide +kernel
theorem dX8_begins_56 : decode cX8_begins 56 = .ok (.iconst 0, 1) := by decide +kernel
theorem dX8_begins_57 : decode cX8_begins 57 = .ok (.iastore, 1) := by decide +kernel
theorem dX8_begins_58 : decode cX8_begins 58 = .ok (.aload_n 0, 1) := by decide +kernel
theorem dX8_begins_59 : decode cX8_begins 59 = .ok (.getfield 38, 3) := by decide +kernel
theorem dX8_begins_62 : decode cX8_begins 62 = .ok (.iload_n 1, 1) := by decide +kernel
theorem dX8_begins_63 : decode cX8_begins 63 = .ok (.iconst 0, 1) := by decide +kernel
theorem dX8_begins_64 : decode cX8_begins 64 = .ok (.iastore, 1) := by decide +kernel
theorem dX8_begins_65 : decode cX8_begins 65 = .ok (.iinc 1 1, 3) := by decide +kernel
theorem dX8_begins_68 : decode cX8_begins 68 = .ok (.goto (-51), 3) := by decide +kernel
theorem dX8_begins_71 : decode cX8_begins 71 = .ok (.iconst 0, 1) := by decide +kernel
theorem dX8_begins_72 : decode cX8_begins 72 = .ok (.istore_n 1, 1) := by decide +kernel
theorem dX8_begins_73 : decode cX8_begins 73 = .ok (.iload_n 1, 1) := by decide +kernel
theorem dX8_begins_74 : decode cX8_begins 74 = .ok (.bipush 24, 2) := by decide +kernel
theorem dX8_begins_76 : decode cX8_begins 76 = .ok (.if_icmp .ge 17, 3) := by decide +kernel
theorem dX8_begins_79 : decode cX8_begins 79 = .ok (.aload_n 0, 1) := by decide +kernel
theorem dX8_begins_80 : decode cX8_begins 80 = .ok (.getfield 41, 3) := by decide +kernel
theorem dX8_begins_83 : decode cX8_begins 83 = .ok (.iload_n 1, 1) := by decide +kernel
theorem dX8_begins_84 : decode cX8_begins 84 = .ok (.bipush 20, 2) := by decide +kernel
theorem dX8_begins_86 : decode cX8_begins 86 = .ok (.iastore, 1) := by decide +kernel
theorem dX8_begins_87 : decode cX8_begins 87 = .ok (.iinc 1 1, 3) := by decide +kernel
theorem dX8_begins_90 : decode cX8_begins 90 = .ok (.goto (-17), 3) := by decide +kernel
theorem dX8_begins_93 : decode cX8_begins 93 = .ok (.iconst 0, 1) := by decide +kernel
theorem dX8_begins_94 : decode cX8_begins 94 = .ok (.istore_n 1, 1) := by decide +kernel
theorem dX8_begins_95 : decode cX8_begins 95 = .ok (.iload_n 1, 1) := by decide +kernel
theorem dX8_begins_96 : decode cX8_begins 96 = .ok (.bipush 6, 2) := by decide +kernel
theorem dX8_begins_98 : decode cX8_begins 98 = .ok (.if_icmp .ge 43, 3) := by decide +kernel
theorem dX8_begins_101 : decode cX8_begins 101 = .ok (.aload_n 0, 1) := by decide +kernel
theorem dX8_begins_102 : decode cX8_begins 102 = .ok (.getfield 59, 3) := by decide +kernel
theorem dX8_begins_105 : decode cX8_begins 105 = .ok (.iload_n 1, 1) := by decide +kernel
theorem dX8_begins_106 : decode cX8_begins 106 = .ok (.bipush 63, 2) := by decide +kernel
theorem dX8_begins_108 : decode cX8_begins 108 = .ok (.iastore, 1) := by decide +kernel
theorem dX8_begins_109 : decode cX8_begins 109 = .ok (.aload_n 0, 1) := by decide +kernel
theorem dX8_begins_110 : decode cX8_begins 110 = .ok (.getfield 62, 3) := by decide +kernel
theorem dX8_begins_113 : decode cX8_begins 113 = .ok (.iload_n 1, 1) := by decide +kernel
theorem dX8_begins_114 : decode cX8_begins 114 = .ok (.iconst 0, 1) := by decide +kernel
theorem dX8_begins_115 : decode cX8_begins 115 = .ok (.iastore, 1) := by decide +kernel
theorem dX8_begins_116 : decode cX8_begins 116 = .ok (.aload_n 0, 1) := by decide +kernel
theorem dX8_begins_117 : decode cX8_begins 117 = .ok (.getfield 68, 3) := by decide +kernel
theorem dX8_begins_120 : decode cX8_begins 120 = .ok (.iload_n 1, 1) := by decide +kernel
theorem dX8_begins_121 : decode cX8_begins 121 = .ok (.iconst 0, 1) := by decide +kernel
theorem dX8_begins_122 : decode cX8_begins 122 = .ok (.iastore, 1) := by decide +kernel
theorem dX8_begins_123 : decode cX8_begins 123 = .ok (.aload_n 0, 1) := by decide +kernel
theorem dX8_begins_124 : decode cX8_begins 124 = .ok (.getfield 71, 3) := by decide +kernel
theorem dX8_begins_127 : decode cX8_begins 127 = .ok (.iload_n 1, 1) := by decide +kernel
theorem dX8_begins_128 : decode cX8_begins 128 = .ok (.iconst 0, 1) := by decide +kernel
theorem dX8_begins_129 : decode cX8_begins 129 = .ok (.iastore, 1) := by decide +kernel
theorem dX8_begins_130 : decode cX8_begins 130 = .ok (.aload_n 0, 1) := by decide +kernel
theorem dX8_begins_131 : decode cX8_begins 131 = .ok (.iload_n 1, 1) := by decide +kernel
theorem dX8_begins_132 : decode cX8_begins 132 = .ok (.invokevirtual 123, 3) := by decide +kernel
theorem dX8_begins_135 : decode cX8_begins 135 = .ok (.iinc 1 1, 3) := by decide +kernel
theorem dX8_begins_138 : decode cX8_begins 138 = .ok (.goto (-43), 3) := by decide +kernel
theorem dX8_begins_141 : decode cX8_begins 141 = .ok (.iconst 0, 1) := by decide +kernel
theorem dX8_begins_142 : decode cX8_begins 142 = .ok (.istore_n 1, 1) := by decide +kernel
theorem dX8_begins_143 : decode cX8_begins 143 = .ok (.iload_n 1, 1) := by decide +kernel
theorem dX8_begins_144 : decode cX8_begins 144 = .ok (.bipush 6, 2) := by decide +kernel
theorem dX8_begins_146 : decode cX8_begins 146 = .ok (.if_icmp .ge 16, 3) := by decide +kernel
theorem dX8_begins_149 : decode cX8_begins 149 = .ok (.aload_n 0, 1) := by decide +kernel
theorem dX8_begins_150 : decode cX8_begins 150 = .ok (.getfield 104, 3) := by decide +kernel
theorem dX8_begins_153 : decode cX8_begins 153 = .ok (.iload_n 1, 1) := by decide +kernel
theorem dX8_begins_154 : decode cX8_begins 154 = .ok (.iconst 0, 1) := by decide +kernel
theorem dX8_begins_155 : decode cX8_begins 155 = .ok (.iastore, 1) := by decide +kernel
theorem dX8_begins_156 : decode cX8_begins 156 = .ok (.iinc 1 1, 3) := by decide +kernel
theorem dX8_begins_159 : decode cX8_begins 159 = .ok (.goto (-16), 3) := by decide +kernel
theorem dX8_begins_162 : decode cX8_begins 162 = .ok (.return_, 1) := by decide +kernel
theorem dX8_comesNew_0 : decode cX8_comesNew 0 = .ok (.aload_n 0, 1) := by decide +kernel
theorem dX8_comesNew_1 : decode cX8_comesNew 1 = .ok (.getfield 44, 3) := by decide +kernel
theorem dX8_comesNew_4 : decode cX8_comesNew 4 = .ok (.iload_n 1, 1) := by decide +kernel
theorem dX8_comesNew_5 : decode cX8_comesNew 5 = .ok (.iconst 0, 1) := by decide +kernel
theorem dX8_comesNew_6 : decode cX8_comesNew 6 = .ok (.iastore, 1) := by decide +kernel
theorem dX8_comesNew_7 : decode cX8_comesNew 7 = .ok (.aload_n 0, 1) := by decide +kernel
theorem dX8_comesNew_8 : decode cX8_comesNew 8 = .ok (.getfield 47, 3) := by decide +kernel
theorem dX8_comesNew_11 : decode cX8_comesNew 11 = .ok (.iload_n 1, 1) := by decide +kernel
theorem dX8_comesNew_12 : decode cX8_comesNew 12 = .ok (.iconst 4, 1) := by decide +kernel
theorem dX8_comesNew_13 : decode cX8_comesNew 13 = .ok (.iastore, 1) := by decide +kernel
theorem dX8_comesNew_14 : decode cX8_comesNew 14 = .ok (.aload_n 0, 1) := by decide +kernel
theorem dX8_comesNew_15 : decode cX8_comesNew 15 = .ok (.getfield 50, 3) := by decide +kernel
theorem dX8_comesNew_18 : decode cX8_comesNew 18 = .ok (.iload_n 1, 1) := by decide +kernel
theorem dX8_comesNew_19 : decode cX8_comesNew 19 = .ok (.iconst 0, 1) := by decide +kernel
theorem dX8_comesNew_20 : decode cX8_comesNew 20 = .ok (.iastore, 1) := by decide +kernel
theorem dX8_comesNew_21 : decode cX8_comesNew 21 = .ok (.aload_n 0, 1) := by decide +kernel
theorem dX8_comesNew_22 : decode cX8_comesNew 22 = .ok (.getfield 53, 3) := by decide +kernel
theorem dX8_comesNew_25 : decode cX8_comesNew 25 = .ok (.iload_n 1, 1) := by decide +kernel
theorem dX8_comesNew_26 : decode cX8_comesNew 26 = .ok (.iconst 0, 1) := by decide +kernel
theorem dX8_comesNew_27 : decode cX8_comesNew 27 = .ok (.iastore, 1) := by decide +kernel
theorem dX8_comesNew_28 : decode cX8_comesNew 28 = .ok (.aload_n 0, 1) := by decide +kernel
theorem dX8_comesNew_29 : decode cX8_comesNew 29 = .ok (.getfield 56, 3) := by decide +kernel
theorem dX8_comesNew_32 : decode cX8_comesNew 32 = .ok (.iload_n 1, 1) := by decide +kernel
theorem dX8_comesNew_33 : decode cX8_comesNew 33 = .ok (.bipush (-2), 2) := by decide +kernel
theorem dX8_comesNew_35 : decode cX8_comesNew 35 = .ok (.iastore, 1) := by decide +kernel
theorem dX8_comesNew_36 : decode cX8_comesNew 36 = .ok (.return_, 1) := by decide +kernel
theorem dX8_sets_0 : decode cX8_sets 0 = .ok (.iload_n 1, 1) := by decide +kernel
theorem dX8_sets_1 : decode cX8_sets 1 = .ok (.iconst 0, 1) := by decide +kernel
theorem dX8_sets_2 : decode cX8_sets 2 = .ok (.iconst 2, 1) := by decide +kernel
theorem dX8_sets_3 : decode cX8_sets 3 = .ok (.invokestatic 110, 3) := by decide +kernel
theorem dX8_sets_6 : decode cX8_sets 6 = .ok (.ifCond .eq 31, 3) := by decide +kernel
theorem dX8_sets_9 : decode cX8_sets 9 = .ok (.iload_n 2, 1) := by decide +kernel
theorem dX8_sets_10 : decode cX8_sets 10 = .ok (.iconst 1, 1) := by decide +kernel
theorem dX8_sets_11 : decode cX8_sets 11 = .ok (.iload_n 1, 1) := by decide +kernel
theorem dX8_sets_12 : decode cX8_sets 12 = .ok (.ifCond .ne 8, 3) := by decide +kernel
theorem dX8_sets_15 : decode cX8_sets 15 = .ok (.bipush 6, 2) := by decide +kernel
theorem dX8_sets_17 : decode cX8_sets 17 = .ok (.goto 14, 3) := by decide +kernel
theorem dX8_sets_20 : decode cX8_sets 20 = .ok (.iload_n 1, 1) := by decide +kernel
theorem dX8_sets_21 : decode cX8_sets 21 = .ok (.iconst 1, 1) := by decide +kernel
theorem dX8_sets_22 : decode cX8_sets 22 = .ok (.if_icmp .ne 7, 3) := by decide +kernel
theorem dX8_sets_25 : decode cX8_sets 25 = .ok (.iconst 4, 1) := by decide +kernel
theorem dX8_sets_26 : decode cX8_sets 26 = .ok (.goto 5, 3) := by decide +kernel
theorem dX8_sets_29 : decode cX8_sets 29 = .ok (.bipush 9, 2) := by decide +kernel
theorem dX8_sets_31 : decode cX8_sets 31 = .ok (.invokestatic 110, 3) := by decide +kernel
theorem dX8_sets_34 : decode cX8_sets 34 = .ok (.ifCond .ne 8, 3) := by decide +kernel
theorem dX8_sets_37 : decode cX8_sets 37 = .ok (.aload_n 0, 1) := by decide +kernel
theorem dX8_sets_38 : decode cX8_sets 38 = .ok (.invokevirtual 127, 3) := by decide +kernel
theorem dX8_sets_41 : decode cX8_sets 41 = .ok (.ireturn, 1) := by decide +kernel
theorem dX8_sets_42 : decode cX8_sets 42 = .ok (.iload_n 1, 1) := by decide +kernel
theorem dX8_sets_43 : decode cX8_sets 43 = .ok (.ifCond .ne 10, 3) := by decide +kernel
theorem dX8_sets_46 : decode cX8_sets 46 = .ok (.aload_n 0, 1) := by decide +kernel
theorem dX8_sets_47 : decode cX8_sets 47 = .ok (.getfield 13, 3) := by decide +kernel
theorem dX8_sets_50 : decode cX8_sets 50 = .ok (.goto 19, 3) := by decide +kernel
theorem dX8_sets_53 : decode cX8_sets 53 = .ok (.iload_n 1, 1) := by decide +kernel
theorem dX8_sets_54 : decode cX8_sets 54 = .ok (.iconst 1, 1) := by decide +kernel
theorem dX8_sets_55 : decode cX8_sets 55 = .ok (.if_icmp .ne 10, 3) := by decide +kernel
theorem dX8_sets_58 : decode cX8_sets 58 = .ok (.aload_n 0, 1) := by decide +kernel
theorem dX8_sets_59 : decode cX8_sets 59 = .ok (.getfield 17, 3) := by decide +kernel
theorem dX8_sets_62 : decode cX8_sets 62 = .ok (.goto 7, 3) := by decide +kernel
theorem dX8_sets_65 : decode cX8_sets 65 = .ok (.aload_n 0, 1) := by decide +kernel
theorem dX8_sets_66 : decode cX8_sets 66 = .ok (.getfield 20, 3) := by decide +kernel
theorem dX8_sets_69 : decode cX8_sets 69 = .ok (.istore_n 3, 1) := by decide +kernel
theorem dX8_sets_70 : decode cX8_sets 70 = .ok (.aload_n 0, 1) := by decide +kernel
theorem dX8_sets_71 : decode cX8_sets 71 = .ok (.iload_n 1, 1) := by decide +kernel
theorem dX8_sets_72 : decode cX8_sets 72 = .ok (.ifCond .ne 7, 3) := by decide +kernel
theorem dX8_sets_75 : decode cX8_sets 75 = .ok (.iload_n 2, 1) := by decide +kernel
theorem dX8_sets_76 : decode cX8_sets 76 = .ok (.goto 7, 3) := by decide +kernel
theorem dX8_sets_79 : decode cX8_sets 79 = .ok (.aload_n 0, 1) := by decide +kernel
theorem dX8_sets_80 : decode cX8_sets 80 = .ok (.getfield 13, 3) := by decide +kernel
theorem dX8_sets_83 : decode cX8_sets 83 = .ok (.putfield 13, 3) := by decide +kernel
theorem dX8_sets_86 : decode cX8_sets 86 = .ok (.aload_n 0, 1) := by decide +kernel
theorem dX8_sets_87 : decode cX8_sets 87 = .ok (.iload_n 1, 1) := by decide +kernel
theorem dX8_sets_88 : decode cX8_sets 88 = .ok (.iconst 1, 1) := by decide +kernel
theorem dX8_sets_89 : decode cX8_sets 89 = .ok (.if_icmp .ne 7, 3) := by decide +kernel
theorem dX8_sets_92 : decode cX8_sets 92 = .ok (.iload_n 2, 1) := by decide +kernel
theorem dX8_sets_93 : decode cX8_sets 93 = .ok (.goto 7, 3) := by decide +kernel
theorem dX8_sets_96 : decode cX8_sets 96 = .ok (.aload_n 0, 1) := by decide +kernel
theorem dX8_sets_97 : decode cX8_sets 97 = .ok (.getfield 17, 3) := by decide +kernel
theorem dX8_sets_100 : decode cX8_sets 100 = .ok (.putfield 17, 3) := by decide +kernel
theorem dX8_sets_103 : decode cX8_sets 103 = .ok (.aload_n 0, 1) := by decide +kernel
theorem dX8_sets_104 : decode cX8_sets 104 = .ok (.iload_n 1, 1) := by decide +kernel
theorem dX8_sets_105 : decode cX8_sets 105 = .ok (.iconst 2, 1) := by decide +kernel
theorem dX8_sets_106 : decode cX8_sets 106 = .ok (.if_icmp .ne 7, 3) := by decide +kernel
theorem dX8_sets_109 : decode cX8_sets 109 = .ok (.iload_n 2, 1) := by decide +kernel
theorem dX8_sets_110 : decode cX8_sets 110 = .ok (.goto 7, 3) := by decide +kernel
theorem dX8_sets_113 : decode cX8_sets 113 = .ok (.aload_n 0, 1) := by decide +kernel
theorem dX8_sets_114 : decode cX8_sets 114 = .ok (.getfield 20, 3) := by decide +kernel
theorem dX8_sets_117 : decode cX8_sets 117 = .ok (.putfield 20, 3) := by decide +kernel
theorem dX8_sets_120 : decode cX8_sets 120 = .ok (.aload_n 0, 1) := by decide +kernel
theorem dX8_sets_121 : decode cX8_sets 121 = .ok (.invokevirtual 131, 3) := by decide +kernel
theorem dX8_sets_124 : decode cX8_sets 124 = .ok (.iload_n 3, 1) := by decide +kernel
theorem dX8_sets_125 : decode cX8_sets 125 = .ok (.ireturn, 1) := by decide +kernel
theorem dX8_gateBecomes_0 : decode cX8_gateBecomes 0 = .ok (.iload_n 2, 1) := by decide +kernel
theorem dX8_gateBecomes_1 : decode cX8_gateBecomes 1 = .ok (.ifCond .ne 12, 3) := by decide +kernel
theorem dX8_gateBecomes_4 : decode cX8_gateBecomes 4 = .ok (.aload_n 0, 1) := by decide +kernel
theorem dX8_gateBecomes_5 : decode cX8_gateBecomes 5 = .ok (.getfield 23, 3) := by decide +kernel
theorem dX8_gateBecomes_8 : decode cX8_gateBecomes 8 = .ok (.iload_n 1, 1) := by decide +kernel
theorem dX8_gateBecomes_9 : decode cX8_gateBecomes 9 = .ok (.iaload, 1) := by decide +kernel
theorem dX8_gateBecomes_10 : decode cX8_gateBecomes 10 = .ok (.goto 9, 3) := by decide +kernel
theorem dX8_gateBecomes_13 : decode cX8_gateBecomes 13 = .ok (.aload_n 0, 1) := by decide +kernel
theorem dX8_gateBecomes_14 : decode cX8_gateBecomes 14 = .ok (.getfield 26, 3) := by decide +kernel
theorem dX8_gateBecomes_17 : decode cX8_gateBecomes 17 = .ok (.iload_n 1, 1) := by decide +kernel
theorem dX8_gateBecomes_18 : decode cX8_gateBecomes 18 = .ok (.iaload, 1) := by decide +kernel
theorem dX8_gateBecomes_19 : decode cX8_gateBecomes 19 = .ok (.istore 4, 2) := by decide +kernel
theorem dX8_gateBecomes_21 : decode cX8_gateBecomes 21 = .ok (.aload_n 0, 1) := by decide +kernel
theorem dX8_gateBecomes_22 : decode cX8_gateBecomes 22 = .ok (.getfield 23, 3) := by decide +kernel
theorem dX8_gateBecomes_25 : decode cX8_gateBecomes 25 = .ok (.iload_n 1, 1) := by decide +kernel
theorem dX8_gateBecomes_26 : decode cX8_gateBecomes 26 = .ok (.iload_n 2, 1) := by decide +kernel
theorem dX8_gateBecomes_27 : decode cX8_gateBecomes 27 = .ok (.ifCond .ne 7, 3) := by decide +kernel
theorem dX8_gateBecomes_30 : decode cX8_gateBecomes 30 = .ok (.iload_n 3, 1) := by decide +kernel
theorem dX8_gateBecomes_31 : decode cX8_gateBecomes 31 = .ok (.goto 9, 3) := by decide +kernel
theorem dX8_gateBecomes_34 : decode cX8_gateBecomes 34 = .ok (.aload_n 0, 1) := by decide +kernel
theorem dX8_gateBecomes_35 : decode cX8_gateBecomes 35 = .ok (.getfield 23, 3) := by decide +kernel
theorem dX8_gateBecomes_38 : decode cX8_gateBecomes 38 = .ok (.iload_n 1, 1) := by decide +kernel
theorem dX8_gateBecomes_39 : decode cX8_gateBecomes 39 = .ok (.iaload, 1) := by decide +kernel
theorem dX8_gateBecomes_40 : decode cX8_gateBecomes 40 = .ok (.iastore, 1) := by decide +kernel
theorem dX8_gateBecomes_41 : decode cX8_gateBecomes 41 = .ok (.aload_n 0, 1) := by decide +kernel
theorem dX8_gateBecomes_42 : decode cX8_gateBecomes 42 = .ok (.getfield 26, 3) := by decide +kernel
theorem dX8_gateBecomes_45 : decode cX8_gateBecomes 45 = .ok (.iload_n 1, 1) := by decide +kernel
theorem dX8_gateBecomes_46 : decode cX8_gateBecomes 46 = .ok (.iload_n 2, 1) := by decide +kernel
theorem dX8_gateBecomes_47 : decode cX8_gateBecomes 47 = .ok (.iconst 1, 1) := by decide +kernel
theorem dX8_gateBecomes_48 : decode cX8_gateBecomes 48 = .ok (.if_icmp .ne 7, 3) := by decide +kernel
theorem dX8_gateBecomes_51 : decode cX8_gateBecomes 51 = .ok (.iload_n 3, 1) := by decide +kernel
theorem dX8_gateBecomes_52 : decode cX8_gateBecomes 52 = .ok (.goto 9, 3) := by decide +kernel
theorem dX8_gateBecomes_55 : decode cX8_gateBecomes 55 = .ok (.aload_n 0, 1) := by decide +kernel
theorem dX8_gateBecomes_56 : decode cX8_gateBecomes 56 = .ok (.getfield 26, 3) := by decide +kernel
theorem dX8_gateBecomes_59 : decode cX8_gateBecomes 59 = .ok (.iload_n 1, 1) := by decide +kernel
theorem dX8_gateBecomes_60 : decode cX8_gateBecomes 60 = .ok (.iaload, 1) := by decide +kernel
theorem dX8_gateBecomes_61 : decode cX8_gateBecomes 61 = .ok (.iastore, 1) := by decide +kernel
theorem dX8_gateBecomes_62 : decode cX8_gateBecomes 62 = .ok (.iload 4, 2) := by decide +kernel
theorem dX8_gateBecomes_64 : decode cX8_gateBecomes 64 = .ok (.ireturn, 1) := by decide +kernel
theorem dX8_gate_0 : decode cX8_gate 0 = .ok (.aload_n 0, 1) := by decide +kernel
theorem dX8_gate_1 : decode cX8_gate 1 = .ok (.iload_n 1, 1) := by decide +kernel
theorem dX8_gate_2 : decode cX8_gate 2 = .ok (.invokevirtual 134, 3) := by decide +kernel
theorem dX8_gate_5 : decode cX8_gate 5 = .ok (.ifCond .eq 40, 3) := by decide +kernel
theorem dX8_gate_8 : decode cX8_gate 8 = .ok (.iload_n 2, 1) := by decide +kernel
theorem dX8_gate_9 : decode cX8_gate 9 = .ok (.iconst 0, 1) := by decide +kernel
theorem dX8_gate_10 : decode cX8_gate 10 = .ok (.iconst 1, 1) := by decide +kernel
theorem dX8_gate_11 : decode cX8_gate 11 = .ok (.invokestatic 110, 3) := by decide +kernel
theorem dX8_gate_14 : decode cX8_gate 14 = .ok (.ifCond .eq 31, 3) := by decide +kernel
theorem dX8_gate_17 : decode cX8_gate 17 = .ok (.iload_n 3, 1) := by decide +kernel
theorem dX8_gate_18 : decode cX8_gate 18 = .ok (.iconst 0, 1) := by decide +kernel
theorem dX8_gate_19 : decode cX8_gate 19 = .ok (.iload_n 2, 1) := by decide +kernel
theorem dX8_gate_20 : decode cX8_gate 20 = .ok (.ifCond .ne 7, 3) := by decide +kernel
theorem dX8_gate_23 : decode cX8_gate 23 = .ok (.iconst 5, 1) := by decide +kernel
theorem dX8_gate_24 : decode cX8_gate 24 = .ok (.goto 5, 3) := by decide +kernel
theorem dX8_gate_27 : decode cX8_gate 27 = .ok (.bipush 40, 2) := by decide +kernel
theorem dX8_gate_29 : decode cX8_gate 29 = .ok (.invokestatic 110, 3) := by decide +kernel
theorem dX8_gate_32 : decode cX8_gate 32 = .ok (.ifCond .eq 13, 3) := by decide +kernel
theorem dX8_gate_35 : decode cX8_gate 35 = .ok (.aload_n 0, 1) := by decide +kernel
theorem dX8_gate_36 : decode cX8_gate 36 = .ok (.iload_n 1, 1) := by decide +kernel
theorem dX8_gate_37 : decode cX8_gate 37 = .ok (.iload_n 2, 1) := by decide +kernel
theorem dX8_gate_38 : decode cX8_gate 38 = .ok (.iload_n 3, 1) := by decide +kernel
theorem dX8_gate_39 : decode cX8_gate 39 = .ok (.invokevirtual 138, 3) := by decide +kernel
theorem dX8_gate_42 : decode cX8_gate 42 = .ok (.goto 7, 3) := by decide +kernel
theorem dX8_gate_45 : decode cX8_gate 45 = .ok (.aload_n 0, 1) := by decide +kernel
theorem dX8_gate_46 : decode cX8_gate 46 = .ok (.invokevirtual 127, 3) := by decide +kernel
theorem dX8_gate_49 : decode cX8_gate 49 = .ok (.ireturn, 1) := by decide +kernel
theorem dX8_gain_0 : decode cX8_gain 0 = .ok (.aload_n 0, 1) := by decide +kernel
theorem dX8_gain_1 : decode cX8_gain 1 = .ok (.iload_n 1, 1) := by decide +kernel
theorem dX8_gain_2 : decode cX8_gain 2 = .ok (.invokevirtual 142, 3) := by decide +kernel
theorem dX8_gain_5 : decode cX8_gain 5 = .ok (.ifCond .eq 21, 3) := by decide +kernel
theorem dX8_gain_8 : decode cX8_gain 8 = .ok (.aload_n 0, 1) := by decide +kernel
theorem dX8_gain_9 : decode cX8_gain 9 = .ok (.iload_n 2, 1) := by decide +kernel
theorem dX8_gain_10 : decode cX8_gain 10 = .ok (.invokevirtual 134, 3) := by decide +kernel
theorem dX8_gain_13 : decode cX8_gain 13 = .ok (.ifCond .eq 13, 3) := by decide +kernel
theorem dX8_gain_16 : decode cX8_gain 16 = .ok (.iload_n 3, 1) := by decide +kernel
theorem dX8_gain_17 : decode cX8_gain 17 = .ok (.iconst 0, 1) := by decide +kernel
theorem dX8_gain_18 : decode cX8_gain 18 = .ok (.bipush 60, 2) := by decide +kernel
theorem dX8_gain_20 : decode cX8_gain 20 = .ok (.invokestatic 110, 3) := by decide +kernel
theorem dX8_gain_23 : decode cX8_gain 23 = .ok (.ifCond .ne 8, 3) := by decide +kernel
theorem dX8_gain_26 : decode cX8_gain 26 = .ok (.aload_n 0, 1) := by decide +kernel
theorem dX8_gain_27 : decode cX8_gain 27 = .ok (.invokevirtual 127, 3) := by decide +kernel
theorem dX8_gain_30 : decode cX8_gain 30 = .ok (.ireturn, 1) := by decide +kernel
theorem dX8_gain_31 : decode cX8_gain 31 = .ok (.aload_n 0, 1) := by decide +kernel
theorem dX8_gain_32 : decode cX8_gain 32 = .ok (.getfield 41, 3) := by decide +kernel
theorem dX8_gain_35 : decode cX8_gain 35 = .ok (.iconst 4, 1) := by decide +kernel
theorem dX8_gain_36 : decode cX8_gain 36 = .ok (.iload_n 1, 1) := by decide +kernel
theorem dX8_gain_37 : decode cX8_gain 37 = .ok (.imul, 1) := by decide +kernel
theorem dX8_gain_38 : decode cX8_gain 38 = .ok (.iload_n 2, 1) := by decide +kernel
theorem dX8_gain_39 : decode cX8_gain 39 = .ok (.iadd, 1) := by decide +kernel
theorem dX8_gain_40 : decode cX8_gain 40 = .ok (.iaload, 1) := by decide +kernel
theorem dX8_gain_41 : decode cX8_gain 41 = .ok (.istore 4, 2) := by decide +kernel
theorem dX8_gain_43 : decode cX8_gain 43 = .ok (.aload_n 0, 1) := by decide +kernel
theorem dX8_gain_44 : decode cX8_gain 44 = .ok (.getfield 41, 3) := by decide +kernel
theorem dX8_gain_47 : decode cX8_gain 47 = .ok (.iconst 4, 1) := by decide +kernel
theorem dX8_gain_48 : decode cX8_gain 48 = .ok (.iload_n 1, 1) := by decide +kernel
theorem dX8_gain_49 : decode cX8_gain 49 = .ok (.imul, 1) := by decide +kernel
theorem dX8_gain_50 : decode cX8_gain 50 = .ok (.iload_n 2, 1) := by decide +kernel
theorem dX8_gain_51 : decode cX8_gain 51 = .ok (.iadd, 1) := by decide +kernel
theorem dX8_gain_52 : decode cX8_gain 52 = .ok (.iload_n 3, 1) := by decide +kernel
theorem dX8_gain_53 : decode cX8_gain 53 = .ok (.iastore, 1) := by decide +kernel
theorem dX8_gain_54 : decode cX8_gain 54 = .ok (.iload 4, 2) := by decide +kernel
theorem dX8_gain_56 : decode cX8_gain 56 = .ok (.ireturn, 1) := by decide +kernel
theorem dX8_draw_0 : decode cX8_draw 0 = .ok (.iload_n 1, 1) := by decide +kernel
theorem dX8_draw_1 : decode cX8_draw 1 = .ok (.iconst 0, 1) := by decide +kernel
theorem dX8_draw_2 : decode cX8_draw 2 = .ok (.ldc 145, 2) := by decide +kernel
theorem dX8_draw_4 : decode cX8_draw 4 = .ok (.invokestatic 110, 3) := by decide +kernel
theorem dX8_draw_7 : decode cX8_draw 7 = .ok (.ifCond .ne 8, 3) := by decide +kernel
theorem dX8_draw_10 : decode cX8_draw 10 = .ok (.aload_n 0, 1) := by decide +kernel
theorem dX8_draw_11 : decode cX8_draw 11 = .ok (.invokevirtual 127, 3) := by decide +kernel
theorem dX8_draw_14 : decode cX8_draw 14 = .ok (.ireturn, 1) := by decide +kernel
theorem dX8_draw_15 : decode cX8_draw 15 = .ok (.iload_n 1, 1) := by decide +kernel
theorem dX8_draw_16 : decode cX8_draw 16 = .ok (.i2l, 1) := by decide +kernel
theorem dX8_draw_17 : decode cX8_draw 17 = .ok (.lstore_n 2, 1) := by decide +kernel
theorem dX8_draw_18 : decode cX8_draw 18 = .ok (.iconst 0, 1) := by decide +kernel
theorem dX8_draw_19 : decode cX8_draw 19 = .ok (.istore 4, 2) := by decide +kernel
theorem dX8_draw_21 : decode cX8_draw 21 = .ok (.iconst 0, 1) := by decide +kernel
theorem dX8_draw_22 : decode cX8_draw 22 = .ok (.istore 5, 2) := by decide +kernel
theorem dX8_draw_24 : decode cX8_draw 24 = .ok (.iload 5, 2) := by decide +kernel
theorem dX8_draw_26 : decode cX8_draw 26 = .ok (.aload_n 0, 1) := by decide +kernel
theorem dX8_draw_27 : decode cX8_draw 27 = .ok (.getfield 13, 3) := by decide +kernel
theorem dX8_draw_30 : decode cX8_draw 30 = .ok (.if_icmp .ge 80, 3) := by decide +kernel
theorem dX8_draw_33 : decode cX8_draw 33 = .ok (.iconst 0, 1) := by decide +kernel
theorem dX8_draw_34 : decode cX8_draw 34 = .ok (.istore 6, 2) := by decide +kernel
theorem dX8_draw_36 : decode cX8_draw 36 = .ok (.iload 6, 2) := by decide +kernel
theorem dX8_draw_38 : decode cX8_draw 38 = .ok (.aload_n 0, 1) := by decide +kernel
theorem dX8_draw_39 : decode cX8_draw 39 = .ok (.getfield 17, 3) := by decide +kernel
theorem dX8_draw_42 : decode cX8_draw 42 = .ok (.if_icmp .ge 62, 3) := by decide +kernel
theorem dX8_draw_45 : decode cX8_draw 45 = .ok (.lload_n 2, 1) := by decide +kernel
theorem dX8_draw_46 : decode cX8_draw 46 = .ok (.ldc2_w 146, 3) := by decide +kernel
theorem dX8_draw_49 : decode cX8_draw 49 = .ok (.lmul, 1) := by decide +kernel
theorem dX8_draw_50 : decode cX8_draw 50 = .ok (.ldc2_w 148, 3) := by decide +kernel
theorem dX8_draw_53 : decode cX8_draw 53 = .ok (.ladd, 1) := by decide +kernel
theorem dX8_draw_54 : decode cX8_draw 54 = .ok (.ldc2_w 150, 3) := by decide +kernel
theorem dX8_draw_57 : decode cX8_draw 57 = .ok (.lrem, 1) := by decide +kernel
theorem dX8_draw_58 : decode cX8_draw 58 = .ok (.lstore_n 2, 1) := by decide +kernel
theorem dX8_draw_59 : decode cX8_draw 59 = .ok (.aload_n 0, 1) := by decide +kernel
theorem dX8_draw_60 : decode cX8_draw 60 = .ok (.getfield 41, 3) := by decide +kernel
theorem dX8_draw_63 : decode cX8_draw 63 = .ok (.iconst 4, 1) := by decide +kernel
theorem dX8_draw_64 : decode cX8_draw 64 = .ok (.iload 5, 2) := by decide +kernel
theorem dX8_draw_66 : decode cX8_draw 66 = .ok (.imul, 1) := by decide +kernel
theorem dX8_draw_67 : decode cX8_draw 67 = .ok (.iload 6, 2) := by decide +kernel
theorem dX8_draw_69 : decode cX8_draw 69 = .ok (.iadd, 1) := by decide +kernel
theorem dX8_draw_70 : decode cX8_draw 70 = .ok (.lload_n 2, 1) := by decide +kernel
theorem dX8_draw_71 : decode cX8_draw 71 = .ok (.ldc2_w 152, 3) := by decide +kernel
theorem dX8_draw_74 : decode cX8_draw 74 = .ok (.ldiv, 1) := by decide +kernel
theorem dX8_draw_75 : decode cX8_draw 75 = .ok (.ldc2_w 154, 3) := by decide +kernel
theorem dX8_draw_78 : decode cX8_draw 78 = .ok (.lrem, 1) := by decide +kernel
theorem dX8_draw_79 : decode cX8_draw 79 = .ok (.l2i, 1) := by decide +kernel
theorem dX8_draw_80 : decode cX8_draw 80 = .ok (.iastore, 1) := by decide +kernel
theorem dX8_draw_81 : decode cX8_draw 81 = .ok (.iload 4, 2) := by decide +kernel
theorem dX8_draw_83 : decode cX8_draw 83 = .ok (.aload_n 0, 1) := by decide +kernel
theorem dX8_draw_84 : decode cX8_draw 84 = .ok (.getfield 41, 3) := by decide +kernel
theorem dX8_draw_87 : decode cX8_draw 87 = .ok (.iconst 4, 1) := by decide +kernel
theorem dX8_draw_88 : decode cX8_draw 88 = .ok (.iload 5, 2) := by decide +kernel
theorem dX8_draw_90 : decode cX8_draw 90 = .ok (.imul, 1) := by decide +kernel
theorem dX8_draw_91 : decode cX8_draw 91 = .ok (.iload 6, 2) := by decide +kernel
theorem dX8_draw_93 : decode cX8_draw 93 = .ok (.iadd, 1) := by decide +kernel
theorem dX8_draw_94 : decode cX8_draw 94 = .ok (.iaload, 1) := by decide +kernel
theorem dX8_draw_95 : decode cX8_draw 95 = .ok (.iadd, 1) := by decide +kernel
theorem dX8_draw_96 : decode cX8_draw 96 = .ok (.istore 4, 2) := by decide +kernel
theorem dX8_draw_98 : decode cX8_draw 98 = .ok (.iinc 6 1, 3) := by decide +kernel
theorem dX8_draw_101 : decode cX8_draw 101 = .ok (.goto (-65), 3) := by decide +kernel
theorem dX8_draw_104 : decode cX8_draw 104 = .ok (.iinc 5 1, 3) := by decide +kernel
theorem dX8_draw_107 : decode cX8_draw 107 = .ok (.goto (-83), 3) := by decide +kernel
theorem dX8_draw_110 : decode cX8_draw 110 = .ok (.iload 4, 2) := by decide +kernel
theorem dX8_draw_112 : decode cX8_draw 112 = .ok (.ireturn, 1) := by decide +kernel
theorem dX8_mostOf_0 : decode cX8_mostOf 0 = .ok (.iload_n 0, 1) := by decide +kernel
theorem dX8_mostOf_1 : decode cX8_mostOf 1 = .ok (.ifCond .ne 7, 3) := by decide +kernel
theorem dX8_mostOf_4 : decode cX8_mostOf 4 = .ok (.iconst 5, 1) := by decide +kernel
theorem dX8_mostOf_5 : decode cX8_mostOf 5 = .ok (.goto 23, 3) := by decide +kernel
theorem dX8_mostOf_8 : decode cX8_mostOf 8 = .ok (.iload_n 0, 1) := by decide +kernel
theorem dX8_mostOf_9 : decode cX8_mostOf 9 = .ok (.iconst 1, 1) := by decide +kernel
theorem dX8_mostOf_10 : decode cX8_mostOf 10 = .ok (.if_icmp .ne 7, 3) := by decide +kernel
theorem dX8_mostOf_13 : decode cX8_mostOf 13 = .ok (.iconst 4, 1) := by decide +kernel
theorem dX8_mostOf_14 : decode cX8_mostOf 14 = .ok (.goto 14, 3) := by decide +kernel
theorem dX8_mostOf_17 : decode cX8_mostOf 17 = .ok (.iload_n 0, 1) := by decide +kernel
theorem dX8_mostOf_18 : decode cX8_mostOf 18 = .ok (.iconst 2, 1) := by decide +kernel
theorem dX8_mostOf_19 : decode cX8_mostOf 19 = .ok (.if_icmp .ne 8, 3) := by decide +kernel
theorem dX8_mostOf_22 : decode cX8_mostOf 22 = .ok (.bipush 63, 2) := by decide +kernel
theorem dX8_mostOf_24 : decode cX8_mostOf 24 = .ok (.goto 4, 3) := by decide +kernel
theorem dX8_mostOf_27 : decode cX8_mostOf 27 = .ok (.iconst 1, 1) := by decide +kernel
theorem dX8_mostOf_28 : decode cX8_mostOf 28 = .ok (.ireturn, 1) := by decide +kernel
theorem dX8_sender_0 : decode cX8_sender 0 = .ok (.aload_n 0, 1) := by decide +kernel
theorem dX8_sender_1 : decode cX8_sender 1 = .ok (.iload_n 1, 1) := by decide +kernel
theorem dX8_sender_2 : decode cX8_sender 2 = .ok (.invokevirtual 142, 3) := by decide +kernel
theorem dX8_sender_5 : decode cX8_sender 5 = .ok (.ifCond .eq 24, 3) := by decide +kernel
theorem dX8_sender_8 : decode cX8_sender 8 = .ok (.iload_n 2, 1) := by decide +kernel
theorem dX8_sender_9 : decode cX8_sender 9 = .ok (.iconst 0, 1) := by decide +kernel
theorem dX8_sender_10 : decode cX8_sender 10 = .ok (.iconst 3, 1) := by decide +kernel
theorem dX8_sender_11 : decode cX8_sender 11 = .ok (.invokestatic 110, 3) := by decide +kernel
theorem dX8_sender_14 : decode cX8_sender 14 = .ok (.ifCond .eq 15, 3) := by decide +kernel
theorem dX8_sender_17 : decode cX8_sender 17 = .ok (.iload_n 3, 1) := by decide +kernel
theorem dX8_sender_18 : decode cX8_sender 18 = .ok (.iconst 0, 1) := by decide +kernel
theorem dX8_sender_19 : decode cX8_sender 19 = .ok (.iload_n 2, 1) := by decide +kernel
theorem dX8_sender_20 : decode cX8_sender 20 = .ok (.invokestatic 156, 3) := by decide +kernel
theorem dX8_sender_23 : decode cX8_sender 23 = .ok (.invokestatic 110, 3) := by decide +kernel
theorem dX8_sender_26 : decode cX8_sender 26 = .ok (.ifCond .ne 8, 3) := by decide +kernel
theorem dX8_sender_29 : decode cX8_sender 29 = .ok (.aload_n 0, 1) := by decide +kernel
theorem dX8_sender_30 : decode cX8_sender 30 = .ok (.invokevirtual 127, 3) := by decide +kernel
theorem dX8_sender_33 : decode cX8_sender 33 = .ok (.ireturn, 1) := by decide +kernel
theorem dX8_sender_34 : decode cX8_sender 34 = .ok (.iload_n 2, 1) := by decide +kernel
theorem dX8_sender_35 : decode cX8_sender 35 = .ok (.ifCond .ne 12, 3) := by decide +kernel
theorem dX8_sender_38 : decode cX8_sender 38 = .ok (.aload_n 0, 1) := by decide +kernel
theorem dX8_sender_39 : decode cX8_sender 39 = .ok (.getfield 44, 3) := by decide +kernel
theorem dX8_sender_42 : decode cX8_sender 42 = .ok (.iload_n 1, 1) := by decide +kernel
theorem dX8_sender_43 : decode cX8_sender 43 = .ok (.iaload, 1) := by decide +kernel
theorem dX8_sender_44 : decode cX8_sender 44 = .ok (.goto 37, 3) := by decide +kernel
theorem dX8_sender_47 : decode cX8_sender 47 = .ok (.iload_n 2, 1) := by decide +kernel
theorem dX8_sender_48 : decode cX8_sender 48 = .ok (.iconst 1, 1) := by decide +kernel
theorem dX8_sender_49 : decode cX8_sender 49 = .ok (.if_icmp .ne 12, 3) := by decide +kernel
theorem dX8_sender_52 : decode cX8_sender 52 = .ok (.aload_n 0, 1) := by decide +kernel
theorem dX8_sender_53 : decode cX8_sender 53 = .ok (.getfield 47, 3) := by decide +kernel
theorem dX8_sender_56 : decode cX8_sender 56 = .ok (.iload_n 1, 1) := by decide +kernel
theorem dX8_sender_57 : decode cX8_sender 57 = .ok (.iaload, 1) := by decide +kernel
theorem dX8_sender_58 : decode cX8_sender 58 = .ok (.goto 23, 3) := by decide +kernel
theorem dX8_sender_61 : decode cX8_sender 61 = .ok (.iload_n 2, 1) := by decide +kernel
theorem dX8_sender_62 : decode cX8_sender 62 = .ok (.iconst 2, 1) := by decide +kernel
theorem dX8_sender_63 : decode cX8_sender 63 = .ok (.if_icmp .ne 12, 3) := by decide +kernel
theorem dX8_sender_66 : decode cX8_sender 66 = .ok (.aload_n 0, 1) := by decide +kernel
theorem dX8_sender_67 : decode cX8_sender 67 = .ok (.getfield 50, 3) := by decide +kernel
theorem dX8_sender_70 : decode cX8_sender 70 = .ok (.iload_n 1, 1) := by decide +kernel
theorem dX8_sender_71 : decode cX8_sender 71 = .ok (.iaload, 1) := by decide +kernel
theorem dX8_sender_72 : decode cX8_sender 72 = .ok (.goto 9, 3) := by decide +kernel
theorem dX8_sender_75 : decode cX8_sender 75 = .ok (.aload_n 0, 1) := by decide +kernel
theorem dX8_sender_76 : decode cX8_sender 76 = .ok (.getfield 53, 3) := by decide +kernel
theorem dX8_sender_79 : decode cX8_sender 79 = .ok (.iload_n 1, 1) := by decide +kernel
theorem dX8_sender_80 : decode cX8_sender 80 = .ok (.iaload, 1) := by decide +kernel
theorem dX8_sender_81 : decode cX8_sender 81 = .ok (.istore 4, 2) := by decide +kernel
theorem dX8_sender_83 : decode cX8_sender 83 = .ok (.iload_n 2, 1) := by decide +kernel
theorem dX8_sender_84 : decode cX8_sender 84 = .ok (.ifCond .ne 13, 3) := by decide +kernel
theorem dX8_sender_87 : decode cX8_sender 87 = .ok (.aload_n 0, 1) := by decide +kernel
theorem dX8_sender_88 : decode cX8_sender 88 = .ok (.getfield 44, 3) := by decide +kernel
theorem dX8_sender_91 : decode cX8_sender 91 = .ok (.iload_n 1, 1) := by decide +kernel
theorem dX8_sender_92 : decode cX8_sender 92 = .ok (.iload_n 3, 1) := by decide +kernel
theorem dX8_sender_93 : decode cX8_sender 93 = .ok (.iastore, 1) := by decide +kernel
theorem dX8_sender_94 : decode cX8_sender 94 = .ok (.goto 40, 3) := by decide +kernel
theorem dX8_sender_97 : decode cX8_sender 97 = .ok (.iload_n 2, 1) := by decide +kernel
theorem dX8_sender_98 : decode cX8_sender 98 = .ok (.iconst 1, 1) := by decide +kernel
theorem dX8_sender_99 : decode cX8_sender 99 = .ok (.if_icmp .ne 13, 3) := by decide +kernel
theorem dX8_sender_102 : decode cX8_sender 102 = .ok (.aload_n 0, 1) := by decide +kernel
theorem dX8_sender_103 : decode cX8_sender 103 = .ok (.getfield 47, 3) := by decide +kernel
theorem dX8_sender_106 : decode cX8_sender 106 = .ok (.iload_n 1, 1) := by decide +kernel
theorem dX8_sender_107 : decode cX8_sender 107 = .ok (.iload_n 3, 1) := by decide +kernel
theorem dX8_sender_108 : decode cX8_sender 108 = .ok (.iastore, 1) := by decide +kernel
theorem dX8_sender_109 : decode cX8_sender 109 = .ok (.goto 25, 3) := by decide +kernel
theorem dX8_sender_112 : decode cX8_sender 112 = .ok (.iload_n 2, 1) := by decide +kernel
theorem dX8_sender_113 : decode cX8_sender 113 = .ok (.iconst 2, 1) := by decide +kernel
theorem dX8_sender_114 : decode cX8_sender 114 = .ok (.if_icmp .ne 13, 3) := by decide +kernel
theorem dX8_sender_117 : decode cX8_sender 117 = .ok (.aload_n 0, 1) := by decide +kernel
theorem dX8_sender_118 : decode cX8_sender 118 = .ok (.getfield 50, 3) := by decide +kernel
theorem dX8_sender_121 : decode cX8_sender 121 = .ok (.iload_n 1, 1) := by decide +kernel
theorem dX8_sender_122 : decode cX8_sender 122 = .ok (.iload_n 3, 1) := by decide +kernel
theorem dX8_sender_123 : decode cX8_sender 123 = .ok (.iastore, 1) := by decide +kernel
theorem dX8_sender_124 : decode cX8_sender 124 = .ok (.goto 10, 3) := by decide +kernel
theorem dX8_sender_127 : decode cX8_sender 127 = .ok (.aload_n 0, 1) := by decide +kernel
theorem dX8_sender_128 : decode cX8_sender 128 = .ok (.getfield 53, 3) := by decide +kernel
theorem dX8_sender_131 : decode cX8_sender 131 = .ok (.iload_n 1, 1) := by decide +kernel
theorem dX8_sender_132 : decode cX8_sender 132 = .ok (.iload_n 3, 1) := by decide +kernel
theorem dX8_sender_133 : decode cX8_sender 133 = .ok (.iastore, 1) := by decide +kernel
theorem dX8_sender_134 : decode cX8_sender 134 = .ok (.iload 4, 2) := by decide +kernel
theorem dX8_sender_136 : decode cX8_sender 136 = .ok (.ireturn, 1) := by decide +kernel
theorem dX8_marginOf_0 : decode cX8_marginOf 0 = .ok (.aload_n 0, 1) := by decide +kernel
theorem dX8_marginOf_1 : decode cX8_marginOf 1 = .ok (.getfield 41, 3) := by decide +kernel
theorem dX8_marginOf_4 : decode cX8_marginOf 4 = .ok (.iconst 4, 1) := by decide +kernel
theorem dX8_marginOf_5 : decode cX8_marginOf 5 = .ok (.iload_n 1, 1) := by decide +kernel
theorem dX8_marginOf_6 : decode cX8_marginOf 6 = .ok (.imul, 1) := by decide +kernel
theorem dX8_marginOf_7 : decode cX8_marginOf 7 = .ok (.iload_n 2, 1) := by decide +kernel
theorem dX8_marginOf_8 : decode cX8_marginOf 8 = .ok (.iadd, 1) := by decide +kernel
theorem dX8_marginOf_9 : decode cX8_marginOf 9 = .ok (.iaload, 1) := by decide +kernel
theorem dX8_marginOf_10 : decode cX8_marginOf 10 = .ok (.iconst 2, 1) := by decide +kernel
theorem dX8_marginOf_11 : decode cX8_marginOf 11 = .ok (.aload_n 0, 1) := by decide +kernel
theorem dX8_marginOf_12 : decode cX8_marginOf 12 = .ok (.getfield 47, 3) := by decide +kernel
theorem dX8_marginOf_15 : decode cX8_marginOf 15 = .ok (.iload_n 1, 1) := by decide +kernel
theorem dX8_marginOf_16 : decode cX8_marginOf 16 = .ok (.iaload, 1) := by decide +kernel
theorem dX8_marginOf_17 : decode cX8_marginOf 17 = .ok (.imul, 1) := by decide +kernel
theorem dX8_marginOf_18 : decode cX8_marginOf 18 = .ok (.iadd, 1) := by decide +kernel
theorem dX8_marginOf_19 : decode cX8_marginOf 19 = .ok (.iconst 5, 1) := by decide +kernel
theorem dX8_marginOf_20 : decode cX8_marginOf 20 = .ok (.aload_n 0, 1) := by decide +kernel
theorem dX8_marginOf_21 : decode cX8_marginOf 21 = .ok (.getfield 44, 3) := by decide +kernel
theorem dX8_marginOf_24 : decode cX8_marginOf 24 = .ok (.iload_n 1, 1) := by decide +kernel
theorem dX8_marginOf_25 : decode cX8_marginOf 25 = .ok (.iaload, 1) := by decide +kernel
theorem dX8_marginOf_26 : decode cX8_marginOf 26 = .ok (.imul, 1) := by decide +kernel
theorem dX8_marginOf_27 : decode cX8_marginOf 27 = .ok (.isub, 1) := by decide +kernel
theorem dX8_marginOf_28 : decode cX8_marginOf 28 = .ok (.ireturn, 1) := by decide +kernel
theorem dX8_isRoom_0 : decode cX8_isRoom 0 = .ok (.aload_n 0, 1) := by decide +kernel
theorem dX8_isRoom_1 : decode cX8_isRoom 1 = .ok (.getfield 117, 3) := by decide +kernel
theorem dX8_isRoom_4 : decode cX8_isRoom 4 = .ok (.bipush 56, 2) := by decide +kernel
theorem dX8_isRoom_6 : decode cX8_isRoom 6 = .ok (.if_icmp .gt 7, 3) := by decide +kernel
theorem dX8_isRoom_9 : decode cX8_isRoom 9 = .ok (.iconst 1, 1) := by decide +kernel
theorem dX8_isRoom_10 : decode cX8_isRoom 10 = .ok (.goto 4, 3) := by decide +kernel
theorem dX8_isRoom_13 : decode cX8_isRoom 13 = .ok (.iconst 0, 1) := by decide +kernel
theorem dX8_isRoom_14 : decode cX8_isRoom 14 = .ok (.ireturn, 1) := by decide +kernel
theorem dX8_goes_0 : decode cX8_goes 0 = .ok (.iconst 0, 1) := by decide +kernel
theorem dX8_goes_1 : decode cX8_goes 1 = .ok (.istore_n 3, 1) := by decide +kernel
theorem dX8_goes_2 : decode cX8_goes 2 = .ok (.iconst 0, 1) := by decide +kernel
theorem dX8_goes_3 : decode cX8_goes 3 = .ok (.istore 4, 2) := by decide +kernel
theorem dX8_goes_5 : decode cX8_goes 5 = .ok (.iload 4, 2) := by decide +kernel
theorem dX8_goes_7 : decode cX8_goes 7 = .ok (.aload_n 0, 1) := by decide +kernel
theorem dX8_goes_8 : decode cX8_goes 8 = .ok (.getfield 17, 3) := by decide +kernel
theorem dX8_goes_11 : decode cX8_goes 11 = .ok (.if_icmp .ge 112, 3) := by decide +kernel
theorem dX8_goes_14 : decode cX8_goes 14 = .ok (.aload_n 0, 1) := by decide +kernel
theorem dX8_goes_15 : decode cX8_goes 15 = .ok (.iload_n 1, 1) := by decide +kernel
theorem dX8_goes_16 : decode cX8_goes 16 = .ok (.iload 4, 2) := by decide +kernel
theorem dX8_goes_18 : decode cX8_goes 18 = .ok (.invokevirtual 160, 3) := by decide +kernel
theorem dX8_goes_21 : decode cX8_goes 21 = .ok (.istore 5, 2) := by decide +kernel
theorem dX8_goes_23 : decode cX8_goes 23 = .ok (.iload 5, 2) := by decide +kernel
theorem dX8_goes_25 : decode cX8_goes 25 = .ok (.ifCond .lt 92, 3) := by decide +kernel
theorem dX8_goes_28 : decode cX8_goes 28 = .ok (.aload_n 0, 1) := by decide +kernel
theorem dX8_goes_29 : decode cX8_goes 29 = .ok (.getfield 74, 3) := by decide +kernel
theorem dX8_goes_32 : decode cX8_goes 32 = .ok (.aload_n 0, 1) := by decide +kernel
theorem dX8_goes_33 : decode cX8_goes 33 = .ok (.getfield 117, 3) := by decide +kernel
theorem dX8_goes_36 : decode cX8_goes 36 = .ok (.iload_n 1, 1) := by decide +kernel
theorem dX8_goes_37 : decode cX8_goes 37 = .ok (.iastore, 1) := by decide +kernel
theorem dX8_goes_38 : decode cX8_goes 38 = .ok (.aload_n 0, 1) := by decide +kernel
theorem dX8_goes_39 : decode cX8_goes 39 = .ok (.getfield 77, 3) := by decide +kernel
theorem dX8_goes_42 : decode cX8_goes 42 = .ok (.aload_n 0, 1) := by decide +kernel
theorem dX8_goes_43 : decode cX8_goes 43 = .ok (.getfield 117, 3) := by decide +kernel
theorem dX8_goes_46 : decode cX8_goes 46 = .ok (.iload 4, 2) := by decide +kernel
theorem dX8_goes_48 : decode cX8_goes 48 = .ok (.iastore, 1) := by decide +kernel
theorem dX8_goes_49 : decode cX8_goes 49 = .ok (.aload_n 0, 1) := by decide +kernel
theorem dX8_goes_50 : decode cX8_goes 50 = .ok (.getfield 80, 3) := by decide +kernel
theorem dX8_goes_53 : decode cX8_goes 53 = .ok (.aload_n 0, 1) := by decide +kernel
theorem dX8_goes_54 : decode cX8_goes 54 = .ok (.getfield 117, 3) := by decide +kernel
theorem dX8_goes_57 : decode cX8_goes 57 = .ok (.iload_n 2, 1) := by decide +kernel
theorem dX8_goes_58 : decode cX8_goes 58 = .ok (.iastore, 1) := by decide +kernel
theorem dX8_goes_59 : decode cX8_goes 59 = .ok (.aload_n 0, 1) := by decide +kernel
theorem dX8_goes_60 : decode cX8_goes 60 = .ok (.getfield 83, 3) := by decide +kernel
theorem dX8_goes_63 : decode cX8_goes 63 = .ok (.aload_n 0, 1) := by decide +kernel
theorem dX8_goes_64 : decode cX8_goes 64 = .ok (.getfield 117, 3) := by decide +kernel
theorem dX8_goes_67 : decode cX8_goes 67 = .ok (.iload 5, 2) := by decide +kernel
theorem dX8_goes_69 : decode cX8_goes 69 = .ok (.iastore, 1) := by decide +kernel
theorem dX8_goes_70 : decode cX8_goes 70 = .ok (.aload_n 0, 1) := by decide +kernel
theorem dX8_goes_71 : decode cX8_goes 71 = .ok (.getfield 86, 3) := by decide +kernel
theorem dX8_goes_74 : decode cX8_goes 74 = .ok (.aload_n 0, 1) := by decide +kernel
theorem dX8_goes_75 : decode cX8_goes 75 = .ok (.getfield 117, 3) := by decide +kernel
theorem dX8_goes_78 : decode cX8_goes 78 = .ok (.aload_n 0, 1) := by decide +kernel
theorem dX8_goes_79 : decode cX8_goes 79 = .ok (.getfield 114, 3) := by decide +kernel
theorem dX8_goes_82 : decode cX8_goes 82 = .ok (.iconst 1, 1) := by decide +kernel
theorem dX8_goes_83 : decode cX8_goes 83 = .ok (.iadd, 1) := by decide +kernel
theorem dX8_goes_84 : decode cX8_goes 84 = .ok (.aload_n 0, 1) := by decide +kernel
theorem dX8_goes_85 : decode cX8_goes 85 = .ok (.getfield 23, 3) := by decide +kernel
theorem dX8_goes_88 : decode cX8_goes 88 = .ok (.iload 4, 2) := by decide +kernel
theorem dX8_goes_90 : decode cX8_goes 90 = .ok (.iaload, 1) := by decide +kernel
theorem dX8_goes_91 : decode cX8_goes 91 = .ok (.iadd, 1) := by decide +kernel
theorem dX8_goes_92 : decode cX8_goes 92 = .ok (.iastore, 1) := by decide +kernel
theorem dX8_goes_93 : decode cX8_goes 93 = .ok (.aload_n 0, 1) := by decide +kernel
theorem dX8_goes_94 : decode cX8_goes 94 = .ok (.dup, 1) := by decide +kernel
theorem dX8_goes_95 : decode cX8_goes 95 = .ok (.getfield 117, 3) := by decide +kernel
theorem dX8_goes_98 : decode cX8_goes 98 = .ok (.iconst 1, 1) := by decide +kernel
theorem dX8_goes_99 : decode cX8_goes 99 = .ok (.iadd, 1) := by decide +kernel
theorem dX8_goes_100 : decode cX8_goes 100 = .ok (.putfield 117, 3) := by decide +kernel
theorem dX8_goes_103 : decode cX8_goes 103 = .ok (.aload_n 0, 1) := by decide +kernel
theorem dX8_goes_104 : decode cX8_goes 104 = .ok (.getfield 32, 3) := by decide +kernel
theorem dX8_goes_107 : decode cX8_goes 107 = .ok (.iload 4, 2) := by decide +kernel
theorem dX8_goes_109 : decode cX8_goes 109 = .ok (.dup2, 1) := by decide +kernel
theorem dX8_goes_110 : decode cX8_goes 110 = .ok (.iaload, 1) := by decide +kernel
theorem dX8_goes_111 : decode cX8_goes 111 = .ok (.iconst 1, 1) := by decide +kernel
theorem dX8_goes_112 : decode cX8_goes 112 = .ok (.iadd, 1) := by decide +kernel
theorem dX8_goes_113 : decode cX8_goes 113 = .ok (.iastore, 1) := by decide +kernel
theorem dX8_goes_114 : decode cX8_goes 114 = .ok (.iinc 3 1, 3) := by decide +kernel
theorem dX8_goes_117 : decode cX8_goes 117 = .ok (.iinc 4 1, 3) := by decide +kernel
theorem dX8_goes_120 : decode cX8_goes 120 = .ok (.goto (-115), 3) := by decide +kernel
theorem dX8_goes_123 : decode cX8_goes 123 = .ok (.iload_n 3, 1) := by decide +kernel
theorem dX8_goes_124 : decode cX8_goes 124 = .ok (.ireturn, 1) := by decide +kernel
theorem dX8_sendsNow_0 : decode cX8_sendsNow 0 = .ok (.aload_n 0, 1) := by decide +kernel
theorem dX8_sendsNow_1 : decode cX8_sendsNow 1 = .ok (.getfield 53, 3) := by decide +kernel
theorem dX8_sendsNow_4 : decode cX8_sendsNow 4 = .ok (.iload_n 1, 1) := by decide +kernel
theorem dX8_sendsNow_5 : decode cX8_sendsNow 5 = .ok (.iaload, 1) := by decide +kernel
theorem dX8_sendsNow_6 : decode cX8_sendsNow 6 = .ok (.iconst 1, 1) := by decide +kernel
theorem dX8_sendsNow_7 : decode cX8_sendsNow 7 = .ok (.if_icmp .ne 12, 3) := by decide +kernel
theorem dX8_sendsNow_10 : decode cX8_sendsNow 10 = .ok (.aload_n 0, 1) := by decide +kernel
theorem dX8_sendsNow_11 : decode cX8_sendsNow 11 = .ok (.getfield 50, 3) := by decide +kernel
theorem dX8_sendsNow_14 : decode cX8_sendsNow 14 = .ok (.iload_n 1, 1) := by decide +kernel
theorem dX8_sendsNow_15 : decode cX8_sendsNow 15 = .ok (.iaload, 1) := by decide +kernel
theorem dX8_sendsNow_16 : decode cX8_sendsNow 16 = .ok (.goto 4, 3) := by decide +kernel
theorem dX8_sendsNow_19 : decode cX8_sendsNow 19 = .ok (.iconst (-1), 1) := by decide +kernel
theorem dX8_sendsNow_20 : decode cX8_sendsNow 20 = .ok (.istore_n 2, 1) := by decide +kernel
theorem dX8_sendsNow_21 : decode cX8_sendsNow 21 = .ok (.aload_n 0, 1) := by decide +kernel
theorem dX8_sendsNow_22 : decode cX8_sendsNow 22 = .ok (.getfield 56, 3) := by decide +kernel
theorem dX8_sendsNow_25 : decode cX8_sendsNow 25 = .ok (.iload_n 1, 1) := by decide +kernel
theorem dX8_sendsNow_26 : decode cX8_sendsNow 26 = .ok (.iload_n 2, 1) := by decide +kernel
theorem dX8_sendsNow_27 : decode cX8_sendsNow 27 = .ok (.iastore, 1) := by decide +kernel
theorem dX8_sendsNow_28 : decode cX8_sendsNow 28 = .ok (.aload_n 0, 1) := by decide +kernel
theorem dX8_sendsNow_29 : decode cX8_sendsNow 29 = .ok (.getfield 50, 3) := by decide +kernel
theorem dX8_sendsNow_32 : decode cX8_sendsNow 32 = .ok (.iload_n 1, 1) := by decide +kernel
theorem dX8_sendsNow_33 : decode cX8_sendsNow 33 = .ok (.aload_n 0, 1) := by decide +kernel
theorem dX8_sendsNow_34 : decode cX8_sendsNow 34 = .ok (.getfield 53, 3) := by decide +kernel
theorem dX8_sendsNow_37 : decode cX8_sendsNow 37 = .ok (.iload_n 1, 1) := by decide +kernel
theorem dX8_sendsNow_38 : decode cX8_sendsNow 38 = .ok (.iaload, 1) := by decide +kernel
theorem dX8_sendsNow_39 : decode cX8_sendsNow 39 = .ok (.iconst 1, 1) := by decide +kernel
theorem dX8_sendsNow_40 : decode cX8_sendsNow 40 = .ok (.if_icmp .ne 17, 3) := by decide +kernel
theorem dX8_sendsNow_43 : decode cX8_sendsNow 43 = .ok (.aload_n 0, 1) := by decide +kernel
theorem dX8_sendsNow_44 : decode cX8_sendsNow 44 = .ok (.getfield 50, 3) := by decide +kernel
theorem dX8_sendsNow_47 : decode cX8_sendsNow 47 = .ok (.iload_n 1, 1) := by decide +kernel
theorem dX8_sendsNow_48 : decode cX8_sendsNow 48 = .ok (.iaload, 1) := by decide +kernel
theorem dX8_sendsNow_49 : decode cX8_sendsNow 49 = .ok (.iconst 1, 1) := by decide +kernel
theorem dX8_sendsNow_50 : decode cX8_sendsNow 50 = .ok (.iadd, 1) := by decide +kernel
theorem dX8_sendsNow_51 : decode cX8_sendsNow 51 = .ok (.bipush 64, 2) := by decide +kernel
theorem dX8_sendsNow_53 : decode cX8_sendsNow 53 = .ok (.irem, 1) := by decide +kernel
theorem dX8_sendsNow_54 : decode cX8_sendsNow 54 = .ok (.goto 9, 3) := by decide +kernel
theorem dX8_sendsNow_57 : decode cX8_sendsNow 57 = .ok (.aload_n 0, 1) := by decide +kernel
theorem dX8_sendsNow_58 : decode cX8_sendsNow 58 = .ok (.getfield 50, 3) := by decide +kernel
theorem dX8_sendsNow_61 : decode cX8_sendsNow 61 = .ok (.iload_n 1, 1) := by decide +kernel
theorem dX8_sendsNow_62 : decode cX8_sendsNow 62 = .ok (.iaload, 1) := by decide +kernel
theorem dX8_sendsNow_63 : decode cX8_sendsNow 63 = .ok (.iastore, 1) := by decide +kernel
theorem dX8_sendsNow_64 : decode cX8_sendsNow 64 = .ok (.aload_n 0, 1) := by decide +kernel
theorem dX8_sendsNow_65 : decode cX8_sendsNow 65 = .ok (.iload_n 1, 1) := by decide +kernel
theorem dX8_sendsNow_66 : decode cX8_sendsNow 66 = .ok (.iload_n 2, 1) := by decide +kernel
theorem dX8_sendsNow_67 : decode cX8_sendsNow 67 = .ok (.invokevirtual 164, 3) := by decide +kernel
theorem dX8_sendsNow_70 : decode cX8_sendsNow 70 = .ok (.ireturn, 1) := by decide +kernel
theorem dX8_sends_0 : decode cX8_sends 0 = .ok (.aload_n 0, 1) := by decide +kernel
theorem dX8_sends_1 : decode cX8_sends 1 = .ok (.iload_n 1, 1) := by decide +kernel
theorem dX8_sends_2 : decode cX8_sends 2 = .ok (.invokevirtual 142, 3) := by decide +kernel
theorem dX8_sends_5 : decode cX8_sends 5 = .ok (.ifCond .ne 8, 3) := by decide +kernel
theorem dX8_sends_8 : decode cX8_sends 8 = .ok (.aload_n 0, 1) := by decide +kernel
theorem dX8_sends_9 : decode cX8_sends 9 = .ok (.invokevirtual 127, 3) := by decide +kernel
theorem dX8_sends_12 : decode cX8_sends 12 = .ok (.ireturn, 1) := by decide +kernel
theorem dX8_sends_13 : decode cX8_sends 13 = .ok (.aload_n 0, 1) := by decide +kernel
theorem dX8_sends_14 : decode cX8_sends 14 = .ok (.invokevirtual 167, 3) := by decide +kernel
theorem dX8_sends_17 : decode cX8_sends 17 = .ok (.ifCond .eq 11, 3) := by decide +kernel
theorem dX8_sends_20 : decode cX8_sends 20 = .ok (.aload_n 0, 1) := by decide +kernel
theorem dX8_sends_21 : decode cX8_sends 21 = .ok (.iload_n 1, 1) := by decide +kernel
theorem dX8_sends_22 : decode cX8_sends 22 = .ok (.invokevirtual 171, 3) := by decide +kernel
theorem dX8_sends_25 : decode cX8_sends 25 = .ok (.goto 7, 3) := by decide +kernel
theorem dX8_sends_28 : decode cX8_sends 28 = .ok (.aload_n 0, 1) := by decide +kernel
theorem dX8_sends_29 : decode cX8_sends 29 = .ok (.invokevirtual 174, 3) := by decide +kernel
theorem dX8_sends_32 : decode cX8_sends 32 = .ok (.ireturn, 1) := by decide +kernel
theorem dX8_again_0 : decode cX8_again 0 = .ok (.aload_n 0, 1) := by decide +kernel
theorem dX8_again_1 : decode cX8_again 1 = .ok (.iload_n 1, 1) := by decide +kernel
theorem dX8_again_2 : decode cX8_again 2 = .ok (.invokevirtual 142, 3) := by decide +kernel
theorem dX8_again_5 : decode cX8_again 5 = .ok (.ifCond .ne 8, 3) := by decide +kernel
theorem dX8_again_8 : decode cX8_again 8 = .ok (.aload_n 0, 1) := by decide +kernel
theorem dX8_again_9 : decode cX8_again 9 = .ok (.invokevirtual 127, 3) := by decide +kernel
theorem dX8_again_12 : decode cX8_again 12 = .ok (.ireturn, 1) := by decide +kernel
theorem dX8_again_13 : decode cX8_again 13 = .ok (.aload_n 0, 1) := by decide +kernel
theorem dX8_again_14 : decode cX8_again 14 = .ok (.getfield 56, 3) := by decide +kernel
theorem dX8_again_17 : decode cX8_again 17 = .ok (.iload_n 1, 1) := by decide +kernel
theorem dX8_again_18 : decode cX8_again 18 = .ok (.iaload, 1) := by decide +kernel
theorem dX8_again_19 : decode cX8_again 19 = .ok (.bipush (-2), 2) := by decide +kernel
theorem dX8_again_21 : decode cX8_again 21 = .ok (.if_icmp .ne 8, 3) := by decide +kernel
theorem dX8_again_24 : decode cX8_again 24 = .ok (.aload_n 0, 1) := by decide +kernel
theorem dX8_again_25 : decode cX8_again 25 = .ok (.invokevirtual 177, 3) := by decide +kernel
theorem dX8_again_28 : decode cX8_again 28 = .ok (.ireturn, 1) := by decide +kernel
theorem dX8_again_29 : decode cX8_again 29 = .ok (.aload_n 0, 1) := by decide +kernel
theorem dX8_again_30 : decode cX8_again 30 = .ok (.invokevirtual 167, 3) := by decide +kernel
theorem dX8_again_33 : decode cX8_again 33 = .ok (.ifCond .eq 17, 3) := by decide +kernel
theorem dX8_again_36 : decode cX8_again 36 = .ok (.aload_n 0, 1) := by decide +kernel
theorem dX8_again_37 : decode cX8_again 37 = .ok (.iload_n 1, 1) := by decide +kernel
theorem dX8_again_38 : decode cX8_again 38 = .ok (.aload_n 0, 1) := by decide +kernel
theorem dX8_again_39 : decode cX8_again 39 = .ok (.getfield 56, 3) := by decide +kernel
theorem dX8_again_42 : decode cX8_again 42 = .ok (.iload_n 1, 1) := by decide +kernel
theorem dX8_again_43 : decode cX8_again 43 = .ok (.iaload, 1) := by decide +kernel
theorem dX8_again_44 : decode cX8_again 44 = .ok (.invokevirtual 164, 3) := by decide +kernel
theorem dX8_again_47 : decode cX8_again 47 = .ok (.goto 7, 3) := by decide +kernel
theorem dX8_again_50 : decode cX8_again 50 = .ok (.aload_n 0, 1) := by decide +kernel
theorem dX8_again_51 : decode cX8_again 51 = .ok (.invokevirtual 174, 3) := by decide +kernel
theorem dX8_again_54 : decode cX8_again 54 = .ok (.ireturn, 1) := by decide +kernel
theorem dX8_renews_0 : decode cX8_renews 0 = .ok (.aload_n 0, 1) := by decide +kernel
theorem dX8_renews_1 : decode cX8_renews 1 = .ok (.iload_n 1, 1) := by decide +kernel
theorem dX8_renews_2 : decode cX8_renews 2 = .ok (.invokevirtual 142, 3) := by decide +kernel
theorem dX8_renews_5 : decode cX8_renews 5 = .ok (.ifCond .ne 8, 3) := by decide +kernel
theorem dX8_renews_8 : decode cX8_renews 8 = .ok (.aload_n 0, 1) := by decide +kernel
theorem dX8_renews_9 : decode cX8_renews 9 = .ok (.invokevirtual 127, 3) := by decide +kernel
theorem dX8_renews_12 : decode cX8_renews 12 = .ok (.ireturn, 1) := by decide +kernel
theorem dX8_renews_13 : decode cX8_renews 13 = .ok (.aload_n 0, 1) := by decide +kernel
theorem dX8_renews_14 : decode cX8_renews 14 = .ok (.getfield 53, 3) := by decide +kernel
theorem dX8_renews_17 : decode cX8_renews 17 = .ok (.iload_n 1, 1) := by decide +kernel
theorem dX8_renews_18 : decode cX8_renews 18 = .ok (.iaload, 1) := by decide +kernel
theorem dX8_renews_19 : decode cX8_renews 19 = .ok (.istore_n 2, 1) := by decide +kernel
theorem dX8_renews_20 : decode cX8_renews 20 = .ok (.aload_n 0, 1) := by decide +kernel
theorem dX8_renews_21 : decode cX8_renews 21 = .ok (.iload_n 1, 1) := by decide +kernel
theorem dX8_renews_22 : decode cX8_renews 22 = .ok (.invokevirtual 123, 3) := by decide +kernel
theorem dX8_renews_25 : decode cX8_renews 25 = .ok (.iload_n 2, 1) := by decide +kernel
theorem dX8_renews_26 : decode cX8_renews 26 = .ok (.ireturn, 1) := by decide +kernel
theorem dX8_far_0 : decode cX8_far 0 = .ok (.iload_n 2, 1) := by decide +kernel
theorem dX8_far_1 : decode cX8_far 1 = .ok (.aload_n 0, 1) := by decide +kernel
theorem dX8_far_2 : decode cX8_far 2 = .ok (.getfield 59, 3) := by decide +kernel
theorem dX8_far_5 : decode cX8_far 5 = .ok (.iload_n 1, 1) := by decide +kernel
theorem dX8_far_6 : decode cX8_far 6 = .ok (.iaload, 1) := by decide +kernel
theorem dX8_far_7 : decode cX8_far 7 = .ok (.isub, 1) := by decide +kernel
theorem dX8_far_8 : decode cX8_far 8 = .ok (.bipush 64, 2) := by decide +kernel
theorem dX8_far_10 : decode cX8_far 10 = .ok (.iadd, 1) := by decide +kernel
theorem dX8_far_11 : decode cX8_far 11 = .ok (.bipush 64, 2) := by decide +kernel
theorem dX8_far_13 : decode cX8_far 13 = .ok (.irem, 1) := by decide +kernel
theorem dX8_far_14 : decode cX8_far 14 = .ok (.ireturn, 1) := by decide +kernel
theorem dX8_isOn_0 : decode cX8_isOn 0 = .ok (.aload_n 0, 1) := by decide +kernel
theorem dX8_isOn_1 : decode cX8_isOn 1 = .ok (.iload_n 1, 1) := by decide +kernel
theorem dX8_isOn_2 : decode cX8_isOn 2 = .ok (.iload_n 2, 1) := by decide +kernel
theorem dX8_isOn_3 : decode cX8_isOn 3 = .ok (.invokevirtual 180, 3) := by decide +kernel
theorem dX8_isOn_6 : decode cX8_isOn 6 = .ok (.iconst 1, 1) := by decide +kernel
theorem dX8_isOn_7 : decode cX8_isOn 7 = .ok (.bipush 32, 2) := by decide +kernel
theorem dX8_isOn_9 : decode cX8_isOn 9 = .ok (.invokestatic 110, 3) := by decide +kernel
theorem dX8_isOn_12 : decode cX8_isOn 12 = .ok (.ireturn, 1) := by decide +kernel
theorem dX8_windowOf_0 : decode cX8_windowOf 0 = .ok (.iconst 0, 1) := by decide +kernel
theorem dX8_windowOf_1 : decode cX8_windowOf 1 = .ok (.istore_n 3, 1) := by decide +kernel
theorem dX8_windowOf_2 : decode cX8_windowOf 2 = .ok (.iload_n 3, 1) := by decide +kernel
theorem dX8_windowOf_3 : decode cX8_windowOf 3 = .ok (.aload_n 0, 1) := by decide +kernel
theorem dX8_windowOf_4 : decode cX8_windowOf 4 = .ok (.getfield 120, 3) := by decide +kernel
theorem dX8_windowOf_7 : decode cX8_windowOf 7 = .ok (.if_icmp .ge 31, 3) := by decide +kernel
theorem dX8_windowOf_10 : decode cX8_windowOf 10 = .ok (.aload_n 0, 1) := by decide +kernel
theorem dX8_windowOf_11 : decode cX8_windowOf 11 = .ok (.getfield 89, 3) := by decide +kernel
theorem dX8_windowOf_14 : decode cX8_windowOf 14 = .ok (.iload_n 3, 1) := by decide +kernel
theorem dX8_windowOf_15 : decode cX8_windowOf 15 = .ok (.iaload, 1) := by decide +kernel
theorem dX8_windowOf_16 : decode cX8_windowOf 16 = .ok (.iload_n 1, 1) := by decide +kernel
theorem dX8_windowOf_17 : decode cX8_windowOf 17 = .ok (.if_icmp .ne 15, 3) := by decide +kernel
theorem dX8_windowOf_20 : decode cX8_windowOf 20 = .ok (.aload_n 0, 1) := by decide +kernel
theorem dX8_windowOf_21 : decode cX8_windowOf 21 = .ok (.getfield 92, 3) := by decide +kernel
theorem dX8_windowOf_24 : decode cX8_windowOf 24 = .ok (.iload_n 3, 1) := by decide +kernel
theorem dX8_windowOf_25 : decode cX8_windowOf 25 = .ok (.iaload, 1) := by decide +kernel
theorem dX8_windowOf_26 : decode cX8_windowOf 26 = .ok (.iload_n 2, 1) := by decide +kernel
theorem dX8_windowOf_27 : decode cX8_windowOf 27 = .ok (.if_icmp .ne 5, 3) := by decide +kernel
theorem dX8_windowOf_30 : decode cX8_windowOf 30 = .ok (.iload_n 3, 1) := by decide +kernel
theorem dX8_windowOf_31 : decode cX8_windowOf 31 = .ok (.ireturn, 1) := by decide +kernel
theorem dX8_windowOf_32 : decode cX8_windowOf 32 = .ok (.iinc 3 1, 3) := by decide +kernel
theorem dX8_windowOf_35 : decode cX8_windowOf 35 = .ok (.goto (-33), 3) := by decide +kernel
theorem dX8_windowOf_38 : decode cX8_windowOf 38 = .ok (.iconst (-1), 1) := by decide +kernel
theorem dX8_windowOf_39 : decode cX8_windowOf 39 = .ok (.ireturn, 1) := by decide +kernel
theorem dX8_hearsIn_0 : decode cX8_hearsIn 0 = .ok (.aload_n 0, 1) := by decide +kernel
theorem dX8_hearsIn_1 : decode cX8_hearsIn 1 = .ok (.getfield 98, 3) := by decide +kernel
theorem dX8_hearsIn_4 : decode cX8_hearsIn 4 = .ok (.iload_n 1, 1) := by decide +kernel
theorem dX8_hearsIn_5 : decode cX8_hearsIn 5 = .ok (.iaload, 1) := by decide +kernel
theorem dX8_hearsIn_6 : decode cX8_hearsIn 6 = .ok (.iload_n 2, 1) := by decide +kernel
theorem dX8_hearsIn_7 : decode cX8_hearsIn 7 = .ok (.ishr, 1) := by decide +kernel
theorem dX8_hearsIn_8 : decode cX8_hearsIn 8 = .ok (.iconst 1, 1) := by decide +kernel
theorem dX8_hearsIn_9 : decode cX8_hearsIn 9 = .ok (.iand, 1) := by decide +kernel
theorem dX8_hearsIn_10 : decode cX8_hearsIn 10 = .ok (.iconst 1, 1) := by decide +kernel
theorem dX8_hearsIn_11 : decode cX8_hearsIn 11 = .ok (.if_icmp .ne 7, 3) := by decide +kernel
theorem dX8_hearsIn_14 : decode cX8_hearsIn 14 = .ok (.iconst 1, 1) := by decide +kernel
theorem dX8_hearsIn_15 : decode cX8_hearsIn 15 = .ok (.goto 4, 3) := by decide +kernel
theorem dX8_hearsIn_18 : decode cX8_hearsIn 18 = .ok (.iconst 0, 1) := by decide +kernel
theorem dX8_hearsIn_19 : decode cX8_hearsIn 19 = .ok (.istore 4, 2) := by decide +kernel
theorem dX8_hearsIn_21 : decode cX8_hearsIn 21 = .ok (.iconst 4, 1) := by decide +kernel
theorem dX8_hearsIn_22 : decode cX8_hearsIn 22 = .ok (.iload_n 1, 1) := by decide +kernel
theorem dX8_hearsIn_23 : decode cX8_hearsIn 23 = .ok (.imul, 1) := by decide +kernel
theorem dX8_hearsIn_24 : decode cX8_hearsIn 24 = .ok (.iload_n 2, 1) := by decide +kernel
theorem dX8_hearsIn_25 : decode cX8_hearsIn 25 = .ok (.iadd, 1) := by decide +kernel
theorem dX8_hearsIn_26 : decode cX8_hearsIn 26 = .ok (.istore 5, 2) := by decide +kernel
theorem dX8_hearsIn_28 : decode cX8_hearsIn 28 = .ok (.aload_n 0, 1) := by decide +kernel
theorem dX8_hearsIn_29 : decode cX8_hearsIn 29 = .ok (.getfield 101, 3) := by decide +kernel
theorem dX8_hearsIn_32 : decode cX8_hearsIn 32 = .ok (.iload 5, 2) := by decide +kernel
theorem dX8_hearsIn_34 : decode cX8_hearsIn 34 = .ok (.iload 4, 2) := by decide +kernel
theorem dX8_hearsIn_36 : decode cX8_hearsIn 36 = .ok (.ifCond .eq 24, 3) := by decide +kernel
theorem dX8_hearsIn_39 : decode cX8_hearsIn 39 = .ok (.aload_n 0, 1) := by decide +kernel
theorem dX8_hearsIn_40 : decode cX8_hearsIn 40 = .ok (.getfield 101, 3) := by decide +kernel
theorem dX8_hearsIn_43 : decode cX8_hearsIn 43 = .ok (.iload 5, 2) := by decide +kernel
theorem dX8_hearsIn_45 : decode cX8_hearsIn 45 = .ok (.iaload, 1) := by decide +kernel
theorem dX8_hearsIn_46 : decode cX8_hearsIn 46 = .ok (.iload_n 3, 1) := by decide +kernel
theorem dX8_hearsIn_47 : decode cX8_hearsIn 47 = .ok (.if_icmp .le 13, 3) := by decide +kernel
theorem dX8_hearsIn_50 : decode cX8_hearsIn 50 = .ok (.aload_n 0, 1) := by decide +kernel
theorem dX8_hearsIn_51 : decode cX8_hearsIn 51 = .ok (.getfield 101, 3) := by decide +kernel
theorem dX8_hearsIn_54 : decode cX8_hearsIn 54 = .ok (.iload 5, 2) := by decide +kernel
theorem dX8_hearsIn_56 : decode cX8_hearsIn 56 = .ok (.iaload, 1) := by decide +kernel
theorem dX8_hearsIn_57 : decode cX8_hearsIn 57 = .ok (.goto 4, 3) := by decide +kernel
theorem dX8_hearsIn_60 : decode cX8_hearsIn 60 = .ok (.iload_n 3, 1) := by decide +kernel
theorem dX8_hearsIn_61 : decode cX8_hearsIn 61 = .ok (.iastore, 1) := by decide +kernel
theorem dX8_hearsIn_62 : decode cX8_hearsIn 62 = .ok (.aload_n 0, 1) := by decide +kernel
theorem dX8_hearsIn_63 : decode cX8_hearsIn 63 = .ok (.getfield 98, 3) := by decide +kernel
theorem dX8_hearsIn_66 : decode cX8_hearsIn 66 = .ok (.iload_n 1, 1) := by decide +kernel
theorem dX8_hearsIn_67 : decode cX8_hearsIn 67 = .ok (.dup2, 1) := by decide +kernel
theorem dX8_hearsIn_68 : decode cX8_hearsIn 68 = .ok (.iaload, 1) := by decide +kernel
theorem dX8_hearsIn_69 : decode cX8_hearsIn 69 = .ok (.iconst 1, 1) := by decide +kernel
theorem dX8_hearsIn_70 : decode cX8_hearsIn 70 = .ok (.iload_n 2, 1) := by decide +kernel
theorem dX8_hearsIn_71 : decode cX8_hearsIn 71 = .ok (.ishl, 1) := by decide +kernel
theorem dX8_hearsIn_72 : decode cX8_hearsIn 72 = .ok (.ior, 1) := by decide +kernel
theorem dX8_hearsIn_73 : decode cX8_hearsIn 73 = .ok (.iastore, 1) := by decide +kernel
theorem dX8_hearsIn_74 : decode cX8_hearsIn 74 = .ok (.return_, 1) := by decide +kernel
theorem dX8_comes_0 : decode cX8_comes 0 = .ok (.aload_n 0, 1) := by decide +kernel
theorem dX8_comes_1 : decode cX8_comes 1 = .ok (.getfield 74, 3) := by decide +kernel
theorem dX8_comes_4 : decode cX8_comes 4 = .ok (.iload_n 1, 1) := by decide +kernel
theorem dX8_comes_5 : decode cX8_comes 5 = .ok (.iaload, 1) := by decide +kernel
theorem dX8_comes_6 : decode cX8_comes 6 = .ok (.istore_n 2, 1) := by decide +kernel
theorem dX8_comes_7 : decode cX8_comes 7 = .ok (.aload_n 0, 1) := by decide +kernel
theorem dX8_comes_8 : decode cX8_comes 8 = .ok (.iload_n 2, 1) := by decide +kernel
theorem dX8_comes_9 : decode cX8_comes 9 = .ok (.aload_n 0, 1) := by decide +kernel
theorem dX8_comes_10 : decode cX8_comes 10 = .ok (.getfield 80, 3) := by decide +kernel
theorem dX8_comes_13 : decode cX8_comes 13 = .ok (.iload_n 1, 1) := by decide +kernel
theorem dX8_comes_14 : decode cX8_comes 14 = .ok (.iaload, 1) := by decide +kernel
theorem dX8_comes_15 : decode cX8_comes 15 = .ok (.invokevirtual 183, 3) := by decide +kernel
theorem dX8_comes_18 : decode cX8_comes 18 = .ok (.istore_n 3, 1) := by decide +kernel
theorem dX8_comes_19 : decode cX8_comes 19 = .ok (.iload_n 3, 1) := by decide +kernel
theorem dX8_comes_20 : decode cX8_comes 20 = .ok (.iconst (-1), 1) := by decide +kernel
theorem dX8_comes_21 : decode cX8_comes 21 = .ok (.if_icmp .eq 33, 3) := by decide +kernel
theorem dX8_comes_24 : decode cX8_comes 24 = .ok (.aload_n 0, 1) := by decide +kernel
theorem dX8_comes_25 : decode cX8_comes 25 = .ok (.getfield 104, 3) := by decide +kernel
theorem dX8_comes_28 : decode cX8_comes 28 = .ok (.iconst 5, 1) := by decide +kernel
theorem dX8_comes_29 : decode cX8_comes 29 = .ok (.dup2, 1) := by decide +kernel
theorem dX8_comes_30 : decode cX8_comes 30 = .ok (.iaload, 1) := by decide +kernel
theorem dX8_comes_31 : decode cX8_comes 31 = .ok (.iconst 1, 1) := by decide +kernel
theorem dX8_comes_32 : decode cX8_comes 32 = .ok (.iadd, 1) := by decide +kernel
theorem dX8_comes_33 : decode cX8_comes 33 = .ok (.iastore, 1) := by decide +kernel
theorem dX8_comes_34 : decode cX8_comes 34 = .ok (.aload_n 0, 1) := by decide +kernel
theorem dX8_comes_35 : decode cX8_comes 35 = .ok (.iload_n 3, 1) := by decide +kernel
theorem dX8_comes_36 : decode cX8_comes 36 = .ok (.aload_n 0, 1) := by decide +kernel
theorem dX8_comes_37 : decode cX8_comes 37 = .ok (.getfield 77, 3) := by decide +kernel
theorem dX8_comes_40 : decode cX8_comes 40 = .ok (.iload_n 1, 1) := by decide +kernel
theorem dX8_comes_41 : decode cX8_comes 41 = .ok (.iaload, 1) := by decide +kernel
theorem dX8_comes_42 : decode cX8_comes 42 = .ok (.aload_n 0, 1) := by decide +kernel
theorem dX8_comes_43 : decode cX8_comes 43 = .ok (.getfield 83, 3) := by decide +kernel
theorem dX8_comes_46 : decode cX8_comes 46 = .ok (.iload_n 1, 1) := by decide +kernel
theorem dX8_comes_47 : decode cX8_comes 47 = .ok (.iaload, 1) := by decide +kernel
theorem dX8_comes_48 : decode cX8_comes 48 = .ok (.invokevirtual 186, 3) := by decide +kernel
theorem dX8_comes_51 : decode cX8_comes 51 = .ok (.goto 118, 3) := by decide +kernel
theorem dX8_comes_54 : decode cX8_comes 54 = .ok (.aload_n 0, 1) := by decide +kernel
theorem dX8_comes_55 : decode cX8_comes 55 = .ok (.getfield 80, 3) := by decide +kernel
theorem dX8_comes_58 : decode cX8_comes 58 = .ok (.iload_n 1, 1) := by decide +kernel
theorem dX8_comes_59 : decode cX8_comes 59 = .ok (.iaload, 1) := by decide +kernel
theorem dX8_comes_60 : decode cX8_comes 60 = .ok (.iconst (-1), 1) := by decide +kernel
theorem dX8_comes_61 : decode cX8_comes 61 = .ok (.if_icmp .eq 17, 3) := by decide +kernel
theorem dX8_comes_64 : decode cX8_comes 64 = .ok (.aload_n 0, 1) := by decide +kernel
theorem dX8_comes_65 : decode cX8_comes 65 = .ok (.iload_n 2, 1) := by decide +kernel
theorem dX8_comes_66 : decode cX8_comes 66 = .ok (.aload_n 0, 1) := by decide +kernel
theorem dX8_comes_67 : decode cX8_comes 67 = .ok (.getfield 80, 3) := by decide +kernel
theorem dX8_comes_70 : decode cX8_comes 70 = .ok (.iload_n 1, 1) := by decide +kernel
theorem dX8_comes_71 : decode cX8_comes 71 = .ok (.iaload, 1) := by decide +kernel
theorem dX8_comes_72 : decode cX8_comes 72 = .ok (.invokevirtual 190, 3) := by decide +kernel
theorem dX8_comes_75 : decode cX8_comes 75 = .ok (.ifCond .eq 84, 3) := by decide +kernel
theorem dX8_comes_78 : decode cX8_comes 78 = .ok (.aload_n 0, 1) := by decide +kernel
theorem dX8_comes_79 : decode cX8_comes 79 = .ok (.getfield 89, 3) := by decide +kernel
theorem dX8_comes_82 : decode cX8_comes 82 = .ok (.aload_n 0, 1) := by decide +kernel
theorem dX8_comes_83 : decode cX8_comes 83 = .ok (.getfield 120, 3) := by decide +kernel
theorem dX8_comes_86 : decode cX8_comes 86 = .ok (.iload_n 2, 1) := by decide +kernel
theorem dX8_comes_87 : decode cX8_comes 87 = .ok (.iastore, 1) := by decide +kernel
theorem dX8_comes_88 : decode cX8_comes 88 = .ok (.aload_n 0, 1) := by decide +kernel
theorem dX8_comes_89 : decode cX8_comes 89 = .ok (.getfield 92, 3) := by decide +kernel
theorem dX8_comes_92 : decode cX8_comes 92 = .ok (.aload_n 0, 1) := by decide +kernel
theorem dX8_comes_93 : decode cX8_comes 93 = .ok (.getfield 120, 3) := by decide +kernel
theorem dX8_comes_96 : decode cX8_comes 96 = .ok (.aload_n 0, 1) := by decide +kernel
theorem dX8_comes_97 : decode cX8_comes 97 = .ok (.getfield 80, 3) := by decide +kernel
theorem dX8_comes_100 : decode cX8_comes 100 = .ok (.iload_n 1, 1) := by decide +kernel
theorem dX8_comes_101 : decode cX8_comes 101 = .ok (.iaload, 1) := by decide +kernel
theorem dX8_comes_102 : decode cX8_comes 102 = .ok (.iastore, 1) := by decide +kernel
theorem dX8_comes_103 : decode cX8_comes 103 = .ok (.aload_n 0, 1) := by decide +kernel
theorem dX8_comes_104 : decode cX8_comes 104 = .ok (.getfield 95, 3) := by decide +kernel
theorem dX8_comes_107 : decode cX8_comes 107 = .ok (.aload_n 0, 1) := by decide +kernel
theorem dX8_comes_108 : decode cX8_comes 108 = .ok (.getfield 120, 3) := by decide +kernel
theorem dX8_comes_111 : decode cX8_comes 111 = .ok (.aload_n 0, 1) := by decide +kernel
theorem dX8_comes_112 : decode cX8_comes 112 = .ok (.getfield 114, 3) := by decide +kernel
theorem dX8_comes_115 : decode cX8_comes 115 = .ok (.iastore, 1) := by decide +kernel
theorem dX8_comes_116 : decode cX8_comes 116 = .ok (.aload_n 0, 1) := by decide +kernel
theorem dX8_comes_117 : decode cX8_comes 117 = .ok (.getfield 98, 3) := by decide +kernel
theorem dX8_comes_120 : decode cX8_comes 120 = .ok (.aload_n 0, 1) := by decide +kernel
theorem dX8_comes_121 : decode cX8_comes 121 = .ok (.getfield 120, 3) := by decide +kernel
theorem dX8_comes_124 : decode cX8_comes 124 = .ok (.iconst 0, 1) := by decide +kernel
theorem dX8_comes_125 : decode cX8_comes 125 = .ok (.iastore, 1) := by decide +kernel
theorem dX8_comes_126 : decode cX8_comes 126 = .ok (.aload_n 0, 1) := by decide +kernel
theorem dX8_comes_127 : decode cX8_comes 127 = .ok (.aload_n 0, 1) := by decide +kernel
theorem dX8_comes_128 : decode cX8_comes 128 = .ok (.getfield 120, 3) := by decide +kernel
theorem dX8_comes_131 : decode cX8_comes 131 = .ok (.aload_n 0, 1) := by decide +kernel
theorem dX8_comes_132 : decode cX8_comes 132 = .ok (.getfield 77, 3) := by decide +kernel
theorem dX8_comes_135 : decode cX8_comes 135 = .ok (.iload_n 1, 1) := by decide +kernel
theorem dX8_comes_136 : decode cX8_comes 136 = .ok (.iaload, 1) := by decide +kernel
theorem dX8_comes_137 : decode cX8_comes 137 = .ok (.aload_n 0, 1) := by decide +kernel
theorem dX8_comes_138 : decode cX8_comes 138 = .ok (.getfield 83, 3) := by decide +kernel
theorem dX8_comes_141 : decode cX8_comes 141 = .ok (.iload_n 1, 1) := by decide +kernel
theorem dX8_comes_142 : decode cX8_comes 142 = .ok (.iaload, 1) := by decide +kernel
theorem dX8_comes_143 : decode cX8_comes 143 = .ok (.invokevirtual 186, 3) := by decide +kernel
theorem dX8_comes_146 : decode cX8_comes 146 = .ok (.aload_n 0, 1) := by decide +kernel
theorem dX8_comes_147 : decode cX8_comes 147 = .ok (.dup, 1) := by decide +kernel
theorem dX8_comes_148 : decode cX8_comes 148 = .ok (.getfield 120, 3) := by decide +kernel
theorem dX8_comes_151 : decode cX8_comes 151 = .ok (.iconst 1, 1) := by decide +kernel
theorem dX8_comes_152 : decode cX8_comes 152 = .ok (.iadd, 1) := by decide +kernel
theorem dX8_comes_153 : decode cX8_comes 153 = .ok (.putfield 120, 3) := by decide +kernel
theorem dX8_comes_156 : decode cX8_comes 156 = .ok (.goto 13, 3) := by decide +kernel
theorem dX8_comes_159 : decode cX8_comes 159 = .ok (.aload_n 0, 1) := by decide +kernel
theorem dX8_comes_160 : decode cX8_comes 160 = .ok (.getfield 104, 3) := by decide +kernel
theorem dX8_comes_163 : decode cX8_comes 163 = .ok (.iconst 2, 1) := by decide +kernel
theorem dX8_comes_164 : decode cX8_comes 164 = .ok (.dup2, 1) := by decide +kernel
theorem dX8_comes_165 : decode cX8_comes 165 = .ok (.iaload, 1) := by decide +kernel
theorem dX8_comes_166 : decode cX8_comes 166 = .ok (.iconst 1, 1) := by decide +kernel
theorem dX8_comes_167 : decode cX8_comes 167 = .ok (.iadd, 1) := by decide +kernel
theorem dX8_comes_168 : decode cX8_comes 168 = .ok (.iastore, 1) := by decide +kernel
theorem dX8_comes_169 : decode cX8_comes 169 = .ok (.return_, 1) := by decide +kernel
theorem dX8_allCome_0 : decode cX8_allCome 0 = .ok (.iconst 0, 1) := by decide +kernel
theorem dX8_allCome_1 : decode cX8_allCome 1 = .ok (.istore_n 1, 1) := by decide +kernel
theorem dX8_allCome_2 : decode cX8_allCome 2 = .ok (.iconst 0, 1) := by decide +kernel
theorem dX8_allCome_3 : decode cX8_allCome 3 = .ok (.istore_n 2, 1) := by decide +kernel
theorem dX8_allCome_4 : decode cX8_allCome 4 = .ok (.iload_n 2, 1) := by decide +kernel
theorem dX8_allCome_5 : decode cX8_allCome 5 = .ok (.aload_n 0, 1) := by decide +kernel
theorem dX8_allCome_6 : decode cX8_allCome 6 = .ok (.getfield 117, 3) := by decide +kernel
theorem dX8_allCome_9 : decode cX8_allCome 9 = .ok (.if_icmp .ge 93, 3) := by decide +kernel
theorem dX8_allCome_12 : decode cX8_allCome 12 = .ok (.aload_n 0, 1) := by decide +kernel
theorem dX8_allCome_13 : decode cX8_allCome 13 = .ok (.getfield 86, 3) := by decide +kernel
theorem dX8_allCome_16 : decode cX8_allCome 16 = .ok (.iload_n 2, 1) := by decide +kernel
theorem dX8_allCome_17 : decode cX8_allCome 17 = .ok (.iaload, 1) := by decide +kernel
theorem dX8_allCome_18 : decode cX8_allCome 18 = .ok (.aload_n 0, 1) := by decide +kernel
theorem dX8_allCome_19 : decode cX8_allCome 19 = .ok (.getfield 114, 3) := by decide +kernel
theorem dX8_allCome_22 : decode cX8_allCome 22 = .ok (.if_icmp .ne 11, 3) := by decide +kernel
theorem dX8_allCome_25 : decode cX8_allCome 25 = .ok (.aload_n 0, 1) := by decide +kernel
theorem dX8_allCome_26 : decode cX8_allCome 26 = .ok (.iload_n 2, 1) := by decide +kernel
theorem dX8_allCome_27 : decode cX8_allCome 27 = .ok (.invokevirtual 194, 3) := by decide +kernel
theorem dX8_allCome_30 : decode cX8_allCome 30 = .ok (.goto 66, 3) := by decide +kernel
theorem dX8_allCome_33 : decode cX8_allCome 33 = .ok (.aload_n 0, 1) := by decide +kernel
theorem dX8_allCome_34 : decode cX8_allCome 34 = .ok (.getfield 74, 3) := by decide +kernel
theorem dX8_allCome_37 : decode cX8_allCome 37 = .ok (.iload_n 1, 1) := by decide +kernel
theorem dX8_allCome_38 : decode cX8_allCome 38 = .ok (.aload_n 0, 1) := by decide +kernel
theorem dX8_allCome_39 : decode cX8_allCome 39 = .ok (.getfield 74, 3) := by decide +kernel
theorem dX8_allCome_42 : decode cX8_allCome 42 = .ok (.iload_n 2, 1) := by decide +kernel
theorem dX8_allCome_43 : decode cX8_allCome 43 = .ok (.iaload, 1) := by decide +kernel
theorem dX8_allCome_44 : decode cX8_allCome 44 = .ok (.iastore, 1) := by decide +kernel
theorem dX8_allCome_45 : decode cX8_allCome 45 = .ok (.aload_n 0, 1) := by decide +kernel
theorem dX8_allCome_46 : decode cX8_allCome 46 = .ok (.getfield 77, 3) := by decide +kernel
theorem dX8_allCome_49 : decode cX8_allCome 49 = .ok (.iload_n 1, 1) := by decide +kernel
theorem dX8_allCome_50 : decode cX8_allCome 50 = .ok (.aload_n 0, 1) := by decide +kernel
theorem dX8_allCome_51 : decode cX8_allCome 51 = .ok (.getfield 77, 3) := by decide +kernel
theorem dX8_allCome_54 : decode cX8_allCome 54 = .ok (.iload_n 2, 1) := by decide +kernel
theorem dX8_allCome_55 : decode cX8_allCome 55 = .ok (.iaload, 1) := by decide +kernel
theorem dX8_allCome_56 : decode cX8_allCome 56 = .ok (.iastore, 1) := by decide +kernel
theorem dX8_allCome_57 : decode cX8_allCome 57 = .ok (.aload_n 0, 1) := by decide +kernel
theorem dX8_allCome_58 : decode cX8_allCome 58 = .ok (.getfield 80, 3) := by decide +kernel
theorem dX8_allCome_61 : decode cX8_allCome 61 = .ok (.iload_n 1, 1) := by decide +kernel
theorem dX8_allCome_62 : decode cX8_allCome 62 = .ok (.aload_n 0, 1) := by decide +kernel
theorem dX8_allCome_63 : decode cX8_allCome 63 = .ok (.getfield 80, 3) := by decide +kernel
theorem dX8_allCome_66 : decode cX8_allCome 66 = .ok (.iload_n 2, 1) := by decide +kernel
theorem dX8_allCome_67 : decode cX8_allCome 67 = .ok (.iaload, 1) := by decide +kernel
theorem dX8_allCome_68 : decode cX8_allCome 68 = .ok (.iastore, 1) := by decide +kernel
theorem dX8_allCome_69 : decode cX8_allCome 69 = .ok (.aload_n 0, 1) := by decide +kernel
theorem dX8_allCome_70 : decode cX8_allCome 70 = .ok (.getfield 83, 3) := by decide +kernel
theorem dX8_allCome_73 : decode cX8_allCome 73 = .ok (.iload_n 1, 1) := by decide +kernel
theorem dX8_allCome_74 : decode cX8_allCome 74 = .ok (.aload_n 0, 1) := by decide +kernel
theorem dX8_allCome_75 : decode cX8_allCome 75 = .ok (.getfield 83, 3) := by decide +kernel
theorem dX8_allCome_78 : decode cX8_allCome 78 = .ok (.iload_n 2, 1) := by decide +kernel
theorem dX8_allCome_79 : decode cX8_allCome 79 = .ok (.iaload, 1) := by decide +kernel
theorem dX8_allCome_80 : decode cX8_allCome 80 = .ok (.iastore, 1) := by decide +kernel
theorem dX8_allCome_81 : decode cX8_allCome 81 = .ok (.aload_n 0, 1) := by decide +kernel
theorem dX8_allCome_82 : decode cX8_allCome 82 = .ok (.getfield 86, 3) := by decide +kernel
theorem dX8_allCome_85 : decode cX8_allCome 85 = .ok (.iload_n 1, 1) := by decide +kernel
theorem dX8_allCome_86 : decode cX8_allCome 86 = .ok (.aload_n 0, 1) := by decide +kernel
theorem dX8_allCome_87 : decode cX8_allCome 87 = .ok (.getfield 86, 3) := by decide +kernel
theorem dX8_allCome_90 : decode cX8_allCome 90 = .ok (.iload_n 2, 1) := by decide +kernel
theorem dX8_allCome_91 : decode cX8_allCome 91 = .ok (.iaload, 1) := by decide +kernel
theorem dX8_allCome_92 : decode cX8_allCome 92 = .ok (.iastore, 1) := by decide +kernel
theorem dX8_allCome_93 : decode cX8_allCome 93 = .ok (.iinc 1 1, 3) := by decide +kernel
theorem dX8_allCome_96 : decode cX8_allCome 96 = .ok (.iinc 2 1, 3) := by decide +kernel
theorem dX8_allCome_99 : decode cX8_allCome 99 = .ok (.goto (-95), 3) := by decide +kernel
theorem dX8_allCome_102 : decode cX8_allCome 102 = .ok (.aload_n 0, 1) := by decide +kernel
theorem dX8_allCome_103 : decode cX8_allCome 103 = .ok (.iload_n 1, 1) := by decide +kernel
theorem dX8_allCome_104 : decode cX8_allCome 104 = .ok (.putfield 117, 3) := by decide +kernel
theorem dX8_allCome_107 : decode cX8_allCome 107 = .ok (.return_, 1) := by decide +kernel
theorem dX8_firstGoes_0 : decode cX8_firstGoes 0 = .ok (.aload_n 0, 1) := by decide +kernel
theorem dX8_firstGoes_1 : decode cX8_firstGoes 1 = .ok (.dup, 1) := by decide +kernel
theorem dX8_firstGoes_2 : decode cX8_firstGoes 2 = .ok (.getfield 120, 3) := by decide +kernel
theorem dX8_firstGoes_5 : decode cX8_firstGoes 5 = .ok (.iconst 1, 1) := by decide +kernel
theorem dX8_firstGoes_6 : decode cX8_firstGoes 6 = .ok (.isub, 1) := by decide +kernel
theorem dX8_firstGoes_7 : decode cX8_firstGoes 7 = .ok (.putfield 120, 3) := by decide +kernel
theorem dX8_firstGoes_10 : decode cX8_firstGoes 10 = .ok (.iconst 0, 1) := by decide +kernel
theorem dX8_firstGoes_11 : decode cX8_firstGoes 11 = .ok (.istore_n 1, 1) := by decide +kernel
theorem dX8_firstGoes_12 : decode cX8_firstGoes 12 = .ok (.iload_n 1, 1) := by decide +kernel
theorem dX8_firstGoes_13 : decode cX8_firstGoes 13 = .ok (.aload_n 0, 1) := by decide +kernel
theorem dX8_firstGoes_14 : decode cX8_firstGoes 14 = .ok (.getfield 120, 3) := by decide +kernel
theorem dX8_firstGoes_17 : decode cX8_firstGoes 17 = .ok (.if_icmp .ge 100, 3) := by decide +kernel
theorem dX8_firstGoes_20 : decode cX8_firstGoes 20 = .ok (.aload_n 0, 1) := by decide +kernel
theorem dX8_firstGoes_21 : decode cX8_firstGoes 21 = .ok (.getfield 89, 3) := by decide +kernel
theorem dX8_firstGoes_24 : decode cX8_firstGoes 24 = .ok (.iload_n 1, 1) := by decide +kernel
theorem dX8_firstGoes_25 : decode cX8_firstGoes 25 = .ok (.aload_n 0, 1) := by decide +kernel
theorem dX8_firstGoes_26 : decode cX8_firstGoes 26 = .ok (.getfield 89, 3) := by decide +kernel
theorem dX8_firstGoes_29 : decode cX8_firstGoes 29 = .ok (.iload_n 1, 1) := by decide +kernel
theorem dX8_firstGoes_30 : decode cX8_firstGoes 30 = .ok (.iconst 1, 1) := by decide +kernel
theorem dX8_firstGoes_31 : decode cX8_firstGoes 31 = .ok (.iadd, 1) := by decide +kernel
theorem dX8_firstGoes_32 : decode cX8_firstGoes 32 = .ok (.iaload, 1) := by decide +kernel
theorem dX8_firstGoes_33 : decode cX8_firstGoes 33 = .ok (.iastore, 1) := by decide +kernel
theorem dX8_firstGoes_34 : decode cX8_firstGoes 34 = .ok (.aload_n 0, 1) := by decide +kernel
theorem dX8_firstGoes_35 : decode cX8_firstGoes 35 = .ok (.getfield 92, 3) := by decide +kernel
theorem dX8_firstGoes_38 : decode cX8_firstGoes 38 = .ok (.iload_n 1, 1) := by decide +kernel
theorem dX8_firstGoes_39 : decode cX8_firstGoes 39 = .ok (.aload_n 0, 1) := by decide +kernel
theorem dX8_firstGoes_40 : decode cX8_firstGoes 40 = .ok (.getfield 92, 3) := by decide +kernel
theorem dX8_firstGoes_43 : decode cX8_firstGoes 43 = .ok (.iload_n 1, 1) := by decide +kernel
theorem dX8_firstGoes_44 : decode cX8_firstGoes 44 = .ok (.iconst 1, 1) := by decide +kernel
theorem dX8_firstGoes_45 : decode cX8_firstGoes 45 = .ok (.iadd, 1) := by decide +kernel
theorem dX8_firstGoes_46 : decode cX8_firstGoes 46 = .ok (.iaload, 1) := by decide +kernel
theorem dX8_firstGoes_47 : decode cX8_firstGoes 47 = .ok (.iastore, 1) := by decide +kernel
theorem dX8_firstGoes_48 : decode cX8_firstGoes 48 = .ok (.aload_n 0, 1) := by decide +kernel
theorem dX8_firstGoes_49 : decode cX8_firstGoes 49 = .ok (.getfield 95, 3) := by decide +kernel
theorem dX8_firstGoes_52 : decode cX8_firstGoes 52 = .ok (.iload_n 1, 1) := by decide +kernel
theorem dX8_firstGoes_53 : decode cX8_firstGoes 53 = .ok (.aload_n 0, 1) := by decide +kernel
theorem dX8_firstGoes_54 : decode cX8_firstGoes 54 = .ok (.getfield 95, 3) := by decide +kernel
theorem dX8_firstGoes_57 : decode cX8_firstGoes 57 = .ok (.iload_n 1, 1) := by decide +kernel
theorem dX8_firstGoes_58 : decode cX8_firstGoes 58 = .ok (.iconst 1, 1) := by decide +kernel
theorem dX8_firstGoes_59 : decode cX8_firstGoes 59 = .ok (.iadd, 1) := by decide +kernel
theorem dX8_firstGoes_60 : decode cX8_firstGoes 60 = .ok (.iaload, 1) := by decide +kernel
theorem dX8_firstGoes_61 : decode cX8_firstGoes 61 = .ok (.iastore, 1) := by decide +kernel
theorem dX8_firstGoes_62 : decode cX8_firstGoes 62 = .ok (.aload_n 0, 1) := by decide +kernel
theorem dX8_firstGoes_63 : decode cX8_firstGoes 63 = .ok (.getfield 98, 3) := by decide +kernel
theorem dX8_firstGoes_66 : decode cX8_firstGoes 66 = .ok (.iload_n 1, 1) := by decide +kernel
theorem dX8_firstGoes_67 : decode cX8_firstGoes 67 = .ok (.aload_n 0, 1) := by decide +kernel
theorem dX8_firstGoes_68 : decode cX8_firstGoes 68 = .ok (.getfield 98, 3) := by decide +kernel
theorem dX8_firstGoes_71 : decode cX8_firstGoes 71 = .ok (.iload_n 1, 1) := by decide +kernel
theorem dX8_firstGoes_72 : decode cX8_firstGoes 72 = .ok (.iconst 1, 1) := by decide +kernel
theorem dX8_firstGoes_73 : decode cX8_firstGoes 73 = .ok (.iadd, 1) := by decide +kernel
theorem dX8_firstGoes_74 : decode cX8_firstGoes 74 = .ok (.iaload, 1) := by decide +kernel
theorem dX8_firstGoes_75 : decode cX8_firstGoes 75 = .ok (.iastore, 1) := by decide +kernel
theorem dX8_firstGoes_76 : decode cX8_firstGoes 76 = .ok (.iconst 0, 1) := by decide +kernel
theorem dX8_firstGoes_77 : decode cX8_firstGoes 77 = .ok (.istore_n 2, 1) := by decide +kernel
theorem dX8_firstGoes_78 : decode cX8_firstGoes 78 = .ok (.iload_n 2, 1) := by decide +kernel
theorem dX8_firstGoes_79 : decode cX8_firstGoes 79 = .ok (.iconst 4, 1) := by decide +kernel
theorem dX8_firstGoes_80 : decode cX8_firstGoes 80 = .ok (.if_icmp .ge 31, 3) := by decide +kernel
theorem dX8_firstGoes_83 : decode cX8_firstGoes 83 = .ok (.aload_n 0, 1) := by decide +kernel
theorem dX8_firstGoes_84 : decode cX8_firstGoes 84 = .ok (.getfield 101, 3) := by decide +kernel
theorem dX8_firstGoes_87 : decode cX8_firstGoes 87 = .ok (.iconst 4, 1) := by decide +kernel
theorem dX8_firstGoes_88 : decode cX8_firstGoes 88 = .ok (.iload_n 1, 1) := by decide +kernel
theorem dX8_firstGoes_89 : decode cX8_firstGoes 89 = .ok (.imul, 1) := by decide +kernel
theorem dX8_firstGoes_90 : decode cX8_firstGoes 90 = .ok (.iload_n 2, 1) := by decide +kernel
theorem dX8_firstGoes_91 : decode cX8_firstGoes 91 = .ok (.iadd, 1) := by decide +kernel
theorem dX8_firstGoes_92 : decode cX8_firstGoes 92 = .ok (.aload_n 0, 1) := by decide +kernel
theorem dX8_firstGoes_93 : decode cX8_firstGoes 93 = .ok (.getfield 101, 3) := by decide +kernel
theorem dX8_firstGoes_96 : decode cX8_firstGoes 96 = .ok (.iconst 4, 1) := by decide +kernel
theorem dX8_firstGoes_97 : decode cX8_firstGoes 97 = .ok (.iload_n 1, 1) := by decide +kernel
theorem dX8_firstGoes_98 : decode cX8_firstGoes 98 = .ok (.imul, 1) := by decide +kernel
theorem dX8_firstGoes_99 : decode cX8_firstGoes 99 = .ok (.iconst 4, 1) := by decide +kernel
theorem dX8_firstGoes_100 : decode cX8_firstGoes 100 = .ok (.iadd, 1) := by decide +kernel
theorem dX8_firstGoes_101 : decode cX8_firstGoes 101 = .ok (.iload_n 2, 1) := by decide +kernel
theorem dX8_firstGoes_102 : decode cX8_firstGoes 102 = .ok (.iadd, 1) := by decide +kernel
theorem dX8_firstGoes_103 : decode cX8_firstGoes 103 = .ok (.iaload, 1) := by decide +kernel
theorem dX8_firstGoes_104 : decode cX8_firstGoes 104 = .ok (.iastore, 1) := by decide +kernel
theorem dX8_firstGoes_105 : decode cX8_firstGoes 105 = .ok (.iinc 2 1, 3) := by decide +kernel
theorem dX8_firstGoes_108 : decode cX8_firstGoes 108 = .ok (.goto (-30), 3) := by decide +kernel
theorem dX8_firstGoes_111 : decode cX8_firstGoes 111 = .ok (.iinc 1 1, 3) := by decide +kernel
theorem dX8_firstGoes_114 : decode cX8_firstGoes 114 = .ok (.goto (-102), 3) := by decide +kernel
theorem dX8_firstGoes_117 : decode cX8_firstGoes 117 = .ok (.return_, 1) := by decide +kernel
theorem dX8_gateBehind_0 : decode cX8_gateBehind 0 = .ok (.iconst (-1), 1) := by decide +kernel
theorem dX8_gateBehind_1 : decode cX8_gateBehind 1 = .ok (.istore_n 2, 1) := by decide +kernel
theorem dX8_gateBehind_2 : decode cX8_gateBehind 2 = .ok (.iconst 0, 1) := by decide +kernel
theorem dX8_gateBehind_3 : decode cX8_gateBehind 3 = .ok (.istore_n 3, 1) := by decide +kernel
theorem dX8_gateBehind_4 : decode cX8_gateBehind 4 = .ok (.iload_n 3, 1) := by decide +kernel
theorem dX8_gateBehind_5 : decode cX8_gateBehind 5 = .ok (.aload_n 0, 1) := by decide +kernel
theorem dX8_gateBehind_6 : decode cX8_gateBehind 6 = .ok (.getfield 17, 3) := by decide +kernel
theorem dX8_gateBehind_9 : decode cX8_gateBehind 9 = .ok (.if_icmp .ge 109, 3) := by decide +kernel
theorem dX8_gateBehind_12 : decode cX8_gateBehind 12 = .ok (.aload_n 0, 1) := by decide +kernel
theorem dX8_gateBehind_13 : decode cX8_gateBehind 13 = .ok (.getfield 98, 3) := by decide +kernel
theorem dX8_gateBehind_16 : decode cX8_gateBehind 16 = .ok (.iconst 0, 1) := by decide +kernel
theorem dX8_gateBehind_17 : decode cX8_gateBehind 17 = .ok (.iaload, 1) := by decide +kernel
theorem dX8_gateBehind_18 : decode cX8_gateBehind 18 = .ok (.iload_n 3, 1) := by decide +kernel
theorem dX8_gateBehind_19 : decode cX8_gateBehind 19 = .ok (.ishr, 1) := by decide +kernel
theorem dX8_gateBehind_20 : decode cX8_gateBehind 20 = .ok (.iconst 1, 1) := by decide +kernel
theorem dX8_gateBehind_21 : decode cX8_gateBehind 21 = .ok (.iand, 1) := by decide +kernel
theorem dX8_gateBehind_22 : decode cX8_gateBehind 22 = .ok (.iconst 1, 1) := by decide +kernel
theorem dX8_gateBehind_23 : decode cX8_gateBehind 23 = .ok (.if_icmp .ne 7, 3) := by decide +kernel
theorem dX8_gateBehind_26 : decode cX8_gateBehind 26 = .ok (.iconst 1, 1) := by decide +kernel
theorem dX8_gateBehind_27 : decode cX8_gateBehind 27 = .ok (.goto 4, 3) := by decide +kernel
theorem dX8_gateBehind_30 : decode cX8_gateBehind 30 = .ok (.iconst 0, 1) := by decide +kernel
theorem dX8_gateBehind_31 : decode cX8_gateBehind 31 = .ok (.istore 4, 2) := by decide +kernel
theorem dX8_gateBehind_33 : decode cX8_gateBehind 33 = .ok (.iload_n 1, 1) := by decide +kernel
theorem dX8_gateBehind_34 : decode cX8_gateBehind 34 = .ok (.iconst (-1), 1) := by decide +kernel
theorem dX8_gateBehind_35 : decode cX8_gateBehind 35 = .ok (.if_icmp .eq 38, 3) := by decide +kernel
theorem dX8_gateBehind_38 : decode cX8_gateBehind 38 = .ok (.aload_n 0, 1) := by decide +kernel
theorem dX8_gateBehind_39 : decode cX8_gateBehind 39 = .ok (.getfield 101, 3) := by decide +kernel
theorem dX8_gateBehind_42 : decode cX8_gateBehind 42 = .ok (.iload_n 3, 1) := by decide +kernel
theorem dX8_gateBehind_43 : decode cX8_gateBehind 43 = .ok (.iaload, 1) := by decide +kernel
theorem dX8_gateBehind_44 : decode cX8_gateBehind 44 = .ok (.aload_n 0, 1) := by decide +kernel
theorem dX8_gateBehind_45 : decode cX8_gateBehind 45 = .ok (.getfield 101, 3) := by decide +kernel
theorem dX8_gateBehind_48 : decode cX8_gateBehind 48 = .ok (.iload_n 1, 1) := by decide +kernel
theorem dX8_gateBehind_49 : decode cX8_gateBehind 49 = .ok (.iaload, 1) := by decide +kernel
theorem dX8_gateBehind_50 : decode cX8_gateBehind 50 = .ok (.if_icmp .lt 23, 3) := by decide +kernel
theorem dX8_gateBehind_53 : decode cX8_gateBehind 53 = .ok (.aload_n 0, 1) := by decide +kernel
theorem dX8_gateBehind_54 : decode cX8_gateBehind 54 = .ok (.getfield 101, 3) := by decide +kernel
theorem dX8_gateBehind_57 : decode cX8_gateBehind 57 = .ok (.iload_n 3, 1) := by decide +kernel
theorem dX8_gateBehind_58 : decode cX8_gateBehind 58 = .ok (.iaload, 1) := by decide +kernel
theorem dX8_gateBehind_59 : decode cX8_gateBehind 59 = .ok (.aload_n 0, 1) := by decide +kernel
theorem dX8_gateBehind_60 : decode cX8_gateBehind 60 = .ok (.getfield 101, 3) := by decide +kernel
theorem dX8_gateBehind_63 : decode cX8_gateBehind 63 = .ok (.iload_n 1, 1) := by decide +kernel
theorem dX8_gateBehind_64 : decode cX8_gateBehind 64 = .ok (.iaload, 1) := by decide +kernel
theorem dX8_gateBehind_65 : decode cX8_gateBehind 65 = .ok (.if_icmp .ne 12, 3) := by decide +kernel
theorem dX8_gateBehind_68 : decode cX8_gateBehind 68 = .ok (.iload_n 3, 1) := by decide +kernel
theorem dX8_gateBehind_69 : decode cX8_gateBehind 69 = .ok (.iload_n 1, 1) := by decide +kernel
theorem dX8_gateBehind_70 : decode cX8_gateBehind 70 = .ok (.if_icmp .le 7, 3) := by decide +kernel
theorem dX8_gateBehind_73 : decode cX8_gateBehind 73 = .ok (.iconst 1, 1) := by decide +kernel
theorem dX8_gateBehind_74 : decode cX8_gateBehind 74 = .ok (.goto 4, 3) := by decide +kernel
theorem dX8_gateBehind_77 : decode cX8_gateBehind 77 = .ok (.iconst 0, 1) := by decide +kernel
theorem dX8_gateBehind_78 : decode cX8_gateBehind 78 = .ok (.istore 5, 2) := by decide +kernel
theorem dX8_gateBehind_80 : decode cX8_gateBehind 80 = .ok (.iload 4, 2) := by decide +kernel
theorem dX8_gateBehind_82 : decode cX8_gateBehind 82 = .ok (.ifCond .eq 30, 3) := by decide +kernel
theorem dX8_gateBehind_85 : decode cX8_gateBehind 85 = .ok (.iload 5, 2) := by decide +kernel
theorem dX8_gateBehind_87 : decode cX8_gateBehind 87 = .ok (.ifCond .eq 25, 3) := by decide +kernel
theorem dX8_gateBehind_90 : decode cX8_gateBehind 90 = .ok (.iload_n 2, 1) := by decide +kernel
theorem dX8_gateBehind_91 : decode cX8_gateBehind 91 = .ok (.iconst (-1), 1) := by decide +kernel
theorem dX8_gateBehind_92 : decode cX8_gateBehind 92 = .ok (.if_icmp .eq 18, 3) := by decide +kernel
theorem dX8_gateBehind_95 : decode cX8_gateBehind 95 = .ok (.aload_n 0, 1) := by decide +kernel
theorem dX8_gateBehind_96 : decode cX8_gateBehind 96 = .ok (.getfield 101, 3) := by decide +kernel
theorem dX8_gateBehind_99 : decode cX8_gateBehind 99 = .ok (.iload_n 3, 1) := by decide +kernel
theorem dX8_gateBehind_100 : decode cX8_gateBehind 100 = .ok (.iaload, 1) := by decide +kernel
theorem dX8_gateBehind_101 : decode cX8_gateBehind 101 = .ok (.aload_n 0, 1) := by decide +kernel
theorem dX8_gateBehind_102 : decode cX8_gateBehind 102 = .ok (.getfield 101, 3) := by decide +kernel
theorem dX8_gateBehind_105 : decode cX8_gateBehind 105 = .ok (.iload_n 2, 1) := by decide +kernel
theorem dX8_gateBehind_106 : decode cX8_gateBehind 106 = .ok (.iaload, 1) := by decide +kernel
theorem dX8_gateBehind_107 : decode cX8_gateBehind 107 = .ok (.if_icmp .le 5, 3) := by decide +kernel
theorem dX8_gateBehind_110 : decode cX8_gateBehind 110 = .ok (.iload_n 3, 1) := by decide +kernel
theorem dX8_gateBehind_111 : decode cX8_gateBehind 111 = .ok (.istore_n 2, 1) := by decide +kernel
theorem dX8_gateBehind_112 : decode cX8_gateBehind 112 = .ok (.iinc 3 1, 3) := by decide +kernel
theorem dX8_gateBehind_115 : decode cX8_gateBehind 115 = .ok (.goto (-111), 3) := by decide +kernel
theorem dX8_gateBehind_118 : decode cX8_gateBehind 118 = .ok (.iload_n 2, 1) := by decide +kernel
theorem dX8_gateBehind_119 : decode cX8_gateBehind 119 = .ok (.ireturn, 1) := by decide +kernel
theorem dX8_answers_0 : decode cX8_answers 0 = .ok (.bipush 6, 2) := by decide +kernel
theorem dX8_answers_2 : decode cX8_answers 2 = .ok (.aload_n 0, 1) := by decide +kernel
theorem dX8_answers_3 : decode cX8_answers 3 = .ok (.getfield 44, 3) := by decide +kernel
theorem dX8_answers_6 : decode cX8_answers 6 = .ok (.iload_n 1, 1) := by decide +kernel
theorem dX8_answers_7 : decode cX8_answers 7 = .ok (.iaload, 1) := by decide +kernel
theorem dX8_answers_8 : decode cX8_answers 8 = .ok (.isub, 1) := by decide +kernel
theorem dX8_answers_9 : decode cX8_answers 9 = .ok (.istore_n 2, 1) := by decide +kernel
theorem dX8_answers_10 : decode cX8_answers 10 = .ok (.aload_n 0, 1) := by decide +kernel
theorem dX8_answers_11 : decode cX8_answers 11 = .ok (.iconst (-1), 1) := by decide +kernel
theorem dX8_answers_12 : decode cX8_answers 12 = .ok (.invokevirtual 197, 3) := by decide +kernel
theorem dX8_answers_15 : decode cX8_answers 15 = .ok (.istore_n 3, 1) := by decide +kernel
theorem dX8_answers_16 : decode cX8_answers 16 = .ok (.iload_n 3, 1) := by decide +kernel
theorem dX8_answers_17 : decode cX8_answers 17 = .ok (.iconst (-1), 1) := by decide +kernel
theorem dX8_answers_18 : decode cX8_answers 18 = .ok (.if_icmp .eq 29, 3) := by decide +kernel
theorem dX8_answers_21 : decode cX8_answers 21 = .ok (.aload_n 0, 1) := by decide +kernel
theorem dX8_answers_22 : decode cX8_answers 22 = .ok (.getfield 26, 3) := by decide +kernel
theorem dX8_answers_25 : decode cX8_answers 25 = .ok (.iload_n 3, 1) := by decide +kernel
theorem dX8_answers_26 : decode cX8_answers 26 = .ok (.iaload, 1) := by decide +kernel
theorem dX8_answers_27 : decode cX8_answers 27 = .ok (.aload_n 0, 1) := by decide +kernel
theorem dX8_answers_28 : decode cX8_answers 28 = .ok (.getfield 29, 3) := by decide +kernel
theorem dX8_answers_31 : decode cX8_answers 31 = .ok (.iload_n 3, 1) := by decide +kernel
theorem dX8_answers_32 : decode cX8_answers 32 = .ok (.iaload, 1) := by decide +kernel
theorem dX8_answers_33 : decode cX8_answers 33 = .ok (.isub, 1) := by decide +kernel
theorem dX8_answers_34 : decode cX8_answers 34 = .ok (.iload_n 2, 1) := by decide +kernel
theorem dX8_answers_35 : decode cX8_answers 35 = .ok (.if_icmp .ge 12, 3) := by decide +kernel
theorem dX8_answers_38 : decode cX8_answers 38 = .ok (.aload_n 0, 1) := by decide +kernel
theorem dX8_answers_39 : decode cX8_answers 39 = .ok (.iload_n 3, 1) := by decide +kernel
theorem dX8_answers_40 : decode cX8_answers 40 = .ok (.invokevirtual 197, 3) := by decide +kernel
theorem dX8_answers_43 : decode cX8_answers 43 = .ok (.istore_n 3, 1) := by decide +kernel
theorem dX8_answers_44 : decode cX8_answers 44 = .ok (.goto (-28), 3) := by decide +kernel
theorem dX8_answers_47 : decode cX8_answers 47 = .ok (.iload_n 3, 1) := by decide +kernel
theorem dX8_answers_48 : decode cX8_answers 48 = .ok (.iconst (-1), 1) := by decide +kernel
theorem dX8_answers_49 : decode cX8_answers 49 = .ok (.if_icmp .ne 15, 3) := by decide +kernel
theorem dX8_answers_52 : decode cX8_answers 52 = .ok (.aload_n 0, 1) := by decide +kernel
theorem dX8_answers_53 : decode cX8_answers 53 = .ok (.getfield 104, 3) := by decide +kernel
theorem dX8_answers_56 : decode cX8_answers 56 = .ok (.iconst 4, 1) := by decide +kernel
theorem dX8_answers_57 : decode cX8_answers 57 = .ok (.dup2, 1) := by decide +kernel
theorem dX8_answers_58 : decode cX8_answers 58 = .ok (.iaload, 1) := by decide +kernel
theorem dX8_answers_59 : decode cX8_answers 59 = .ok (.iconst 1, 1) := by decide +kernel
theorem dX8_answers_60 : decode cX8_answers 60 = .ok (.iadd, 1) := by decide +kernel
theorem dX8_answers_61 : decode cX8_answers 61 = .ok (.iastore, 1) := by decide +kernel
theorem dX8_answers_62 : decode cX8_answers 62 = .ok (.iconst 0, 1) := by decide +kernel
theorem dX8_answers_63 : decode cX8_answers 63 = .ok (.ireturn, 1) := by decide +kernel
theorem dX8_answers_64 : decode cX8_answers 64 = .ok (.aload_n 0, 1) := by decide +kernel
theorem dX8_answers_65 : decode cX8_answers 65 = .ok (.getfield 29, 3) := by decide +kernel
theorem dX8_answers_68 : decode cX8_answers 68 = .ok (.iload_n 3, 1) := by decide +kernel
theorem dX8_answers_69 : decode cX8_answers 69 = .ok (.dup2, 1) := by decide +kernel
theorem dX8_answers_70 : decode cX8_answers 70 = .ok (.iaload, 1) := by decide +kernel
theorem dX8_answers_71 : decode cX8_answers 71 = .ok (.iload_n 2, 1) := by decide +kernel
theorem dX8_answers_72 : decode cX8_answers 72 = .ok (.iadd, 1) := by decide +kernel
theorem dX8_answers_73 : decode cX8_answers 73 = .ok (.iastore, 1) := by decide +kernel
theorem dX8_answers_74 : decode cX8_answers 74 = .ok (.aload_n 0, 1) := by decide +kernel
theorem dX8_answers_75 : decode cX8_answers 75 = .ok (.getfield 35, 3) := by decide +kernel
theorem dX8_answers_78 : decode cX8_answers 78 = .ok (.iload_n 3, 1) := by decide +kernel
theorem dX8_answers_79 : decode cX8_answers 79 = .ok (.dup2, 1) := by decide +kernel
theorem dX8_answers_80 : decode cX8_answers 80 = .ok (.iaload, 1) := by decide +kernel
theorem dX8_answers_81 : decode cX8_answers 81 = .ok (.iconst 1, 1) := by decide +kernel
theorem dX8_answers_82 : decode cX8_answers 82 = .ok (.iadd, 1) := by decide +kernel
theorem dX8_answers_83 : decode cX8_answers 83 = .ok (.iastore, 1) := by decide +kernel
theorem dX8_answers_84 : decode cX8_answers 84 = .ok (.aload_n 0, 1) := by decide +kernel
theorem dX8_answers_85 : decode cX8_answers 85 = .ok (.getfield 104, 3) := by decide +kernel
theorem dX8_answers_88 : decode cX8_answers 88 = .ok (.iconst 3, 1) := by decide +kernel
theorem dX8_answers_89 : decode cX8_answers 89 = .ok (.dup2, 1) := by decide +kernel
theorem dX8_answers_90 : decode cX8_answers 90 = .ok (.iaload, 1) := by decide +kernel
theorem dX8_answers_91 : decode cX8_answers 91 = .ok (.iconst 1, 1) := by decide +kernel
theorem dX8_answers_92 : decode cX8_answers 92 = .ok (.iadd, 1) := by decide +kernel
theorem dX8_answers_93 : decode cX8_answers 93 = .ok (.iastore, 1) := by decide +kernel
theorem dX8_answers_94 : decode cX8_answers 94 = .ok (.iconst 1, 1) := by decide +kernel
theorem dX8_answers_95 : decode cX8_answers 95 = .ok (.ireturn, 1) := by decide +kernel
theorem dX8_notes_0 : decode cX8_notes 0 = .ok (.iconst 4, 1) := by decide +kernel
theorem dX8_notes_1 : decode cX8_notes 1 = .ok (.iload_n 1, 1) := by decide +kernel
theorem dX8_notes_2 : decode cX8_notes 2 = .ok (.imul, 1) := by decide +kernel
theorem dX8_notes_3 : decode cX8_notes 3 = .ok (.istore_n 3, 1) := by decide +kernel
theorem dX8_notes_4 : decode cX8_notes 4 = .ok (.aload_n 0, 1) := by decide +kernel
theorem dX8_notes_5 : decode cX8_notes 5 = .ok (.getfield 62, 3) := by decide +kernel
theorem dX8_notes_8 : decode cX8_notes 8 = .ok (.iload_n 1, 1) := by decide +kernel
theorem dX8_notes_9 : decode cX8_notes 9 = .ok (.iaload, 1) := by decide +kernel
theorem dX8_notes_10 : decode cX8_notes 10 = .ok (.iconst 4, 1) := by decide +kernel
theorem dX8_notes_11 : decode cX8_notes 11 = .ok (.if_icmp .ne 48, 3) := by decide +kernel
theorem dX8_notes_14 : decode cX8_notes 14 = .ok (.iconst 0, 1) := by decide +kernel
theorem dX8_notes_15 : decode cX8_notes 15 = .ok (.istore 4, 2) := by decide +kernel
theorem dX8_notes_17 : decode cX8_notes 17 = .ok (.iload 4, 2) := by decide +kernel
theorem dX8_notes_19 : decode cX8_notes 19 = .ok (.iconst 3, 1) := by decide +kernel
theorem dX8_notes_20 : decode cX8_notes 20 = .ok (.if_icmp .ge 29, 3) := by decide +kernel
theorem dX8_notes_23 : decode cX8_notes 23 = .ok (.aload_n 0, 1) := by decide +kernel
theorem dX8_notes_24 : decode cX8_notes 24 = .ok (.getfield 65, 3) := by decide +kernel
theorem dX8_notes_27 : decode cX8_notes 27 = .ok (.iload_n 3, 1) := by decide +kernel
theorem dX8_notes_28 : decode cX8_notes 28 = .ok (.iload 4, 2) := by decide +kernel
theorem dX8_notes_30 : decode cX8_notes 30 = .ok (.iadd, 1) := by decide +kernel
theorem dX8_notes_31 : decode cX8_notes 31 = .ok (.aload_n 0, 1) := by decide +kernel
theorem dX8_notes_32 : decode cX8_notes 32 = .ok (.getfield 65, 3) := by decide +kernel
theorem dX8_notes_35 : decode cX8_notes 35 = .ok (.iload_n 3, 1) := by decide +kernel
theorem dX8_notes_36 : decode cX8_notes 36 = .ok (.iload 4, 2) := by decide +kernel
theorem dX8_notes_38 : decode cX8_notes 38 = .ok (.iadd, 1) := by decide +kernel
theorem dX8_notes_39 : decode cX8_notes 39 = .ok (.iconst 1, 1) := by decide +kernel
theorem dX8_notes_40 : decode cX8_notes 40 = .ok (.iadd, 1) := by decide +kernel
theorem dX8_notes_41 : decode cX8_notes 41 = .ok (.iaload, 1) := by decide +kernel
theorem dX8_notes_42 : decode cX8_notes 42 = .ok (.iastore, 1) := by decide +kernel
theorem dX8_notes_43 : decode cX8_notes 43 = .ok (.iinc 4 1, 3) := by decide +kernel
theorem dX8_notes_46 : decode cX8_notes 46 = .ok (.goto (-29), 3) := by decide +kernel
theorem dX8_notes_49 : decode cX8_notes 49 = .ok (.aload_n 0, 1) := by decide +kernel
theorem dX8_notes_50 : decode cX8_notes 50 = .ok (.getfield 62, 3) := by decide +kernel
theorem dX8_notes_53 : decode cX8_notes 53 = .ok (.iload_n 1, 1) := by decide +kernel
theorem dX8_notes_54 : decode cX8_notes 54 = .ok (.dup2, 1) := by decide +kernel
theorem dX8_notes_55 : decode cX8_notes 55 = .ok (.iaload, 1) := by decide +kernel
theorem dX8_notes_56 : decode cX8_notes 56 = .ok (.iconst 1, 1) := by decide +kernel
theorem dX8_notes_57 : decode cX8_notes 57 = .ok (.isub, 1) := by decide +kernel
theorem dX8_notes_58 : decode cX8_notes 58 = .ok (.iastore, 1) := by decide +kernel
theorem dX8_notes_59 : decode cX8_notes 59 = .ok (.aload_n 0, 1) := by decide +kernel
theorem dX8_notes_60 : decode cX8_notes 60 = .ok (.getfield 65, 3) := by decide +kernel
theorem dX8_notes_63 : decode cX8_notes 63 = .ok (.iload_n 3, 1) := by decide +kernel
theorem dX8_notes_64 : decode cX8_notes 64 = .ok (.aload_n 0, 1) := by decide +kernel
theorem dX8_notes_65 : decode cX8_notes 65 = .ok (.getfield 62, 3) := by decide +kernel
theorem dX8_notes_68 : decode cX8_notes 68 = .ok (.iload_n 1, 1) := by decide +kernel
theorem dX8_notes_69 : decode cX8_notes 69 = .ok (.iaload, 1) := by decide +kernel
theorem dX8_notes_70 : decode cX8_notes 70 = .ok (.iadd, 1) := by decide +kernel
theorem dX8_notes_71 : decode cX8_notes 71 = .ok (.iload_n 2, 1) := by decide +kernel
theorem dX8_notes_72 : decode cX8_notes 72 = .ok (.iastore, 1) := by decide +kernel
theorem dX8_notes_73 : decode cX8_notes 73 = .ok (.aload_n 0, 1) := by decide +kernel
theorem dX8_notes_74 : decode cX8_notes 74 = .ok (.getfield 62, 3) := by decide +kernel
theorem dX8_notes_77 : decode cX8_notes 77 = .ok (.iload_n 1, 1) := by decide +kernel
theorem dX8_notes_78 : decode cX8_notes 78 = .ok (.dup2, 1) := by decide +kernel
theorem dX8_notes_79 : decode cX8_notes 79 = .ok (.iaload, 1) := by decide +kernel
theorem dX8_notes_80 : decode cX8_notes 80 = .ok (.iconst 1, 1) := by decide +kernel
theorem dX8_notes_81 : decode cX8_notes 81 = .ok (.iadd, 1) := by decide +kernel
theorem dX8_notes_82 : decode cX8_notes 82 = .ok (.iastore, 1) := by decide +kernel
theorem dX8_notes_83 : decode cX8_notes 83 = .ok (.return_, 1) := by decide +kernel
theorem dX8_reckons_0 : decode cX8_reckons 0 = .ok (.sipush (-1000), 3) := by decide +kernel
theorem dX8_reckons_3 : decode cX8_reckons 3 = .ok (.istore_n 2, 1) := by decide +kernel
theorem dX8_reckons_4 : decode cX8_reckons 4 = .ok (.iconst 0, 1) := by decide +kernel
theorem dX8_reckons_5 : decode cX8_reckons 5 = .ok (.istore_n 3, 1) := by decide +kernel
theorem dX8_reckons_6 : decode cX8_reckons 6 = .ok (.iload_n 3, 1) := by decide +kernel
theorem dX8_reckons_7 : decode cX8_reckons 7 = .ok (.iconst 4, 1) := by decide +kernel
theorem dX8_reckons_8 : decode cX8_reckons 8 = .ok (.if_icmp .ge 34, 3) := by decide +kernel
theorem dX8_reckons_11 : decode cX8_reckons 11 = .ok (.aload_n 0, 1) := by decide +kernel
theorem dX8_reckons_12 : decode cX8_reckons 12 = .ok (.getfield 65, 3) := by decide +kernel
theorem dX8_reckons_15 : decode cX8_reckons 15 = .ok (.iconst 4, 1) := by decide +kernel
theorem dX8_reckons_16 : decode cX8_reckons 16 = .ok (.iload_n 1, 1) := by decide +kernel
theorem dX8_reckons_17 : decode cX8_reckons 17 = .ok (.imul, 1) := by decide +kernel
theorem dX8_reckons_18 : decode cX8_reckons 18 = .ok (.iload_n 3, 1) := by decide +kernel
theorem dX8_reckons_19 : decode cX8_reckons 19 = .ok (.iadd, 1) := by decide +kernel
theorem dX8_reckons_20 : decode cX8_reckons 20 = .ok (.iaload, 1) := by decide +kernel
theorem dX8_reckons_21 : decode cX8_reckons 21 = .ok (.istore 4, 2) := by decide +kernel
theorem dX8_reckons_23 : decode cX8_reckons 23 = .ok (.iload 4, 2) := by decide +kernel
theorem dX8_reckons_25 : decode cX8_reckons 25 = .ok (.iload_n 2, 1) := by decide +kernel
theorem dX8_reckons_26 : decode cX8_reckons 26 = .ok (.if_icmp .le 8, 3) := by decide +kernel
theorem dX8_reckons_29 : decode cX8_reckons 29 = .ok (.iload 4, 2) := by decide +kernel
theorem dX8_reckons_31 : decode cX8_reckons 31 = .ok (.goto 4, 3) := by decide +kernel
theorem dX8_reckons_34 : decode cX8_reckons 34 = .ok (.iload_n 2, 1) := by decide +kernel
theorem dX8_reckons_35 : decode cX8_reckons 35 = .ok (.istore_n 2, 1) := by decide +kernel
theorem dX8_reckons_36 : decode cX8_reckons 36 = .ok (.iinc 3 1, 3) := by decide +kernel
theorem dX8_reckons_39 : decode cX8_reckons 39 = .ok (.goto (-33), 3) := by decide +kernel
theorem dX8_reckons_42 : decode cX8_reckons 42 = .ok (.iinc 2 (-6), 3) := by decide +kernel
theorem dX8_reckons_45 : decode cX8_reckons 45 = .ok (.aload_n 0, 1) := by decide +kernel
theorem dX8_reckons_46 : decode cX8_reckons 46 = .ok (.aload_n 0, 1) := by decide +kernel
theorem dX8_reckons_47 : decode cX8_reckons 47 = .ok (.getfield 44, 3) := by decide +kernel
theorem dX8_reckons_50 : decode cX8_reckons 50 = .ok (.iload_n 1, 1) := by decide +kernel
theorem dX8_reckons_51 : decode cX8_reckons 51 = .ok (.iaload, 1) := by decide +kernel
theorem dX8_reckons_52 : decode cX8_reckons 52 = .ok (.putfield 200, 3) := by decide +kernel
theorem dX8_reckons_55 : decode cX8_reckons 55 = .ok (.aload_n 0, 1) := by decide +kernel
theorem dX8_reckons_56 : decode cX8_reckons 56 = .ok (.aload_n 0, 1) := by decide +kernel
theorem dX8_reckons_57 : decode cX8_reckons 57 = .ok (.getfield 47, 3) := by decide +kernel
theorem dX8_reckons_60 : decode cX8_reckons 60 = .ok (.iload_n 1, 1) := by decide +kernel
theorem dX8_reckons_61 : decode cX8_reckons 61 = .ok (.iaload, 1) := by decide +kernel
theorem dX8_reckons_62 : decode cX8_reckons 62 = .ok (.putfield 203, 3) := by decide +kernel
theorem dX8_reckons_65 : decode cX8_reckons 65 = .ok (.iload_n 2, 1) := by decide +kernel
theorem dX8_reckons_66 : decode cX8_reckons 66 = .ok (.iconst 5, 1) := by decide +kernel
theorem dX8_reckons_67 : decode cX8_reckons 67 = .ok (.if_icmp .lt 27, 3) := by decide +kernel
theorem dX8_reckons_70 : decode cX8_reckons 70 = .ok (.aload_n 0, 1) := by decide +kernel
theorem dX8_reckons_71 : decode cX8_reckons 71 = .ok (.getfield 200, 3) := by decide +kernel
theorem dX8_reckons_74 : decode cX8_reckons 74 = .ok (.iconst 5, 1) := by decide +kernel
theorem dX8_reckons_75 : decode cX8_reckons 75 = .ok (.if_icmp .ge 19, 3) := by decide +kernel
theorem dX8_reckons_78 : decode cX8_reckons 78 = .ok (.aload_n 0, 1) := by decide +kernel
theorem dX8_reckons_79 : decode cX8_reckons 79 = .ok (.dup, 1) := by decide +kernel
theorem dX8_reckons_80 : decode cX8_reckons 80 = .ok (.getfield 200, 3) := by decide +kernel
theorem dX8_reckons_83 : decode cX8_reckons 83 = .ok (.iconst 1, 1) := by decide +kernel
theorem dX8_reckons_84 : decode cX8_reckons 84 = .ok (.iadd, 1) := by decide +kernel
theorem dX8_reckons_85 : decode cX8_reckons 85 = .ok (.putfield 200, 3) := by decide +kernel
theorem dX8_reckons_88 : decode cX8_reckons 88 = .ok (.iinc 2 (-5), 3) := by decide +kernel
theorem dX8_reckons_91 : decode cX8_reckons 91 = .ok (.goto (-26), 3) := by decide +kernel
theorem dX8_reckons_94 : decode cX8_reckons 94 = .ok (.iload_n 2, 1) := by decide +kernel
theorem dX8_reckons_95 : decode cX8_reckons 95 = .ok (.iconst 2, 1) := by decide +kernel
theorem dX8_reckons_96 : decode cX8_reckons 96 = .ok (.if_icmp .lt 26, 3) := by decide +kernel
theorem dX8_reckons_99 : decode cX8_reckons 99 = .ok (.aload_n 0, 1) := by decide +kernel
theorem dX8_reckons_100 : decode cX8_reckons 100 = .ok (.getfield 203, 3) := by decide +kernel
theorem dX8_reckons_103 : decode cX8_reckons 103 = .ok (.ifCond .le 19, 3) := by decide +kernel
theorem dX8_reckons_106 : decode cX8_reckons 106 = .ok (.aload_n 0, 1) := by decide +kernel
theorem dX8_reckons_107 : decode cX8_reckons 107 = .ok (.dup, 1) := by decide +kernel
theorem dX8_reckons_108 : decode cX8_reckons 108 = .ok (.getfield 203, 3) := by decide +kernel
theorem dX8_reckons_111 : decode cX8_reckons 111 = .ok (.iconst 1, 1) := by decide +kernel
theorem dX8_reckons_112 : decode cX8_reckons 112 = .ok (.isub, 1) := by decide +kernel
theorem dX8_reckons_113 : decode cX8_reckons 113 = .ok (.putfield 203, 3) := by decide +kernel
theorem dX8_reckons_116 : decode cX8_reckons 116 = .ok (.iinc 2 (-2), 3) := by decide +kernel
theorem dX8_reckons_119 : decode cX8_reckons 119 = .ok (.goto (-25), 3) := by decide +kernel
theorem dX8_reckons_122 : decode cX8_reckons 122 = .ok (.iload_n 2, 1) := by decide +kernel
theorem dX8_reckons_123 : decode cX8_reckons 123 = .ok (.ifCond .ge 27, 3) := by decide +kernel
theorem dX8_reckons_126 : decode cX8_reckons 126 = .ok (.aload_n 0, 1) := by decide +kernel
theorem dX8_reckons_127 : decode cX8_reckons 127 = .ok (.getfield 203, 3) := by decide +kernel
theorem dX8_reckons_130 : decode cX8_reckons 130 = .ok (.iconst 4, 1) := by decide +kernel
theorem dX8_reckons_131 : decode cX8_reckons 131 = .ok (.if_icmp .ge 19, 3) := by decide +kernel
theorem dX8_reckons_134 : decode cX8_reckons 134 = .ok (.aload_n 0, 1) := by decide +kernel
theorem dX8_reckons_135 : decode cX8_reckons 135 = .ok (.dup, 1) := by decide +kernel
theorem dX8_reckons_136 : decode cX8_reckons 136 = .ok (.getfield 203, 3) := by decide +kernel
theorem dX8_reckons_139 : decode cX8_reckons 139 = .ok (.iconst 1, 1) := by decide +kernel
theorem dX8_reckons_140 : decode cX8_reckons 140 = .ok (.iadd, 1) := by decide +kernel
theorem dX8_reckons_141 : decode cX8_reckons 141 = .ok (.putfield 203, 3) := by decide +kernel
theorem dX8_reckons_144 : decode cX8_reckons 144 = .ok (.iinc 2 2, 3) := by decide +kernel
theorem dX8_reckons_147 : decode cX8_reckons 147 = .ok (.goto (-25), 3) := by decide +kernel
theorem dX8_reckons_150 : decode cX8_reckons 150 = .ok (.iload_n 2, 1) := by decide +kernel
theorem dX8_reckons_151 : decode cX8_reckons 151 = .ok (.ifCond .ge 26, 3) := by decide +kernel
theorem dX8_reckons_154 : decode cX8_reckons 154 = .ok (.aload_n 0, 1) := by decide +kernel
theorem dX8_reckons_155 : decode cX8_reckons 155 = .ok (.getfield 200, 3) := by decide +kernel
theorem dX8_reckons_158 : decode cX8_reckons 158 = .ok (.ifCond .le 19, 3) := by decide +kernel
theorem dX8_reckons_161 : decode cX8_reckons 161 = .ok (.aload_n 0, 1) := by decide +kernel
theorem dX8_reckons_162 : decode cX8_reckons 162 = .ok (.dup, 1) := by decide +kernel
theorem dX8_reckons_163 : decode cX8_reckons 163 = .ok (.getfield 200, 3) := by decide +kernel
theorem dX8_reckons_166 : decode cX8_reckons 166 = .ok (.iconst 1, 1) := by decide +kernel
theorem dX8_reckons_167 : decode cX8_reckons 167 = .ok (.isub, 1) := by decide +kernel
theorem dX8_reckons_168 : decode cX8_reckons 168 = .ok (.putfield 200, 3) := by decide +kernel
theorem dX8_reckons_171 : decode cX8_reckons 171 = .ok (.iinc 2 5, 3) := by decide +kernel
theorem dX8_reckons_174 : decode cX8_reckons 174 = .ok (.goto (-24), 3) := by decide +kernel
theorem dX8_reckons_177 : decode cX8_reckons 177 = .ok (.return_, 1) := by decide +kernel
theorem dX8_adapts_0 : decode cX8_adapts 0 = .ok (.aload_n 0, 1) := by decide +kernel
theorem dX8_adapts_1 : decode cX8_adapts 1 = .ok (.iload_n 1, 1) := by decide +kernel
theorem dX8_adapts_2 : decode cX8_adapts 2 = .ok (.invokevirtual 206, 3) := by decide +kernel
theorem dX8_adapts_5 : decode cX8_adapts 5 = .ok (.aload_n 0, 1) := by decide +kernel
theorem dX8_adapts_6 : decode cX8_adapts 6 = .ok (.getfield 200, 3) := by decide +kernel
theorem dX8_adapts_9 : decode cX8_adapts 9 = .ok (.istore_n 2, 1) := by decide +kernel
theorem dX8_adapts_10 : decode cX8_adapts 10 = .ok (.aload_n 0, 1) := by decide +kernel
theorem dX8_adapts_11 : decode cX8_adapts 11 = .ok (.getfield 203, 3) := by decide +kernel
theorem dX8_adapts_14 : decode cX8_adapts 14 = .ok (.istore_n 3, 1) := by decide +kernel
theorem dX8_adapts_15 : decode cX8_adapts 15 = .ok (.iload_n 2, 1) := by decide +kernel
theorem dX8_adapts_16 : decode cX8_adapts 16 = .ok (.aload_n 0, 1) := by decide +kernel
theorem dX8_adapts_17 : decode cX8_adapts 17 = .ok (.getfield 44, 3) := by decide +kernel
theorem dX8_adapts_20 : decode cX8_adapts 20 = .ok (.iload_n 1, 1) := by decide +kernel
theorem dX8_adapts_21 : decode cX8_adapts 21 = .ok (.iaload, 1) := by decide +kernel
theorem dX8_adapts_22 : decode cX8_adapts 22 = .ok (.if_icmp .ne 14, 3) := by decide +kernel
theorem dX8_adapts_25 : decode cX8_adapts 25 = .ok (.iload_n 3, 1) := by decide +kernel
theorem dX8_adapts_26 : decode cX8_adapts 26 = .ok (.aload_n 0, 1) := by decide +kernel
theorem dX8_adapts_27 : decode cX8_adapts 27 = .ok (.getfield 47, 3) := by decide +kernel
theorem dX8_adapts_30 : decode cX8_adapts 30 = .ok (.iload_n 1, 1) := by decide +kernel
theorem dX8_adapts_31 : decode cX8_adapts 31 = .ok (.iaload, 1) := by decide +kernel
theorem dX8_adapts_32 : decode cX8_adapts 32 = .ok (.if_icmp .ne 4, 3) := by decide +kernel
theorem dX8_adapts_35 : decode cX8_adapts 35 = .ok (.return_, 1) := by decide +kernel
theorem dX8_adapts_36 : decode cX8_adapts 36 = .ok (.aload_n 0, 1) := by decide +kernel
theorem dX8_adapts_37 : decode cX8_adapts 37 = .ok (.getfield 62, 3) := by decide +kernel
theorem dX8_adapts_40 : decode cX8_adapts 40 = .ok (.iload_n 1, 1) := by decide +kernel
theorem dX8_adapts_41 : decode cX8_adapts 41 = .ok (.iconst 0, 1) := by decide +kernel
theorem dX8_adapts_42 : decode cX8_adapts 42 = .ok (.iastore, 1) := by decide +kernel
theorem dX8_adapts_43 : decode cX8_adapts 43 = .ok (.aload_n 0, 1) := by decide +kernel
theorem dX8_adapts_44 : decode cX8_adapts 44 = .ok (.iload_n 1, 1) := by decide +kernel
theorem dX8_adapts_45 : decode cX8_adapts 45 = .ok (.invokevirtual 209, 3) := by decide +kernel
theorem dX8_adapts_48 : decode cX8_adapts 48 = .ok (.ifCond .eq 27, 3) := by decide +kernel
theorem dX8_adapts_51 : decode cX8_adapts 51 = .ok (.aload_n 0, 1) := by decide +kernel
theorem dX8_adapts_52 : decode cX8_adapts 52 = .ok (.getfield 53, 3) := by decide +kernel
theorem dX8_adapts_55 : decode cX8_adapts 55 = .ok (.iload_n 1, 1) := by decide +kernel
theorem dX8_adapts_56 : decode cX8_adapts 56 = .ok (.iaload, 1) := by decide +kernel
theorem dX8_adapts_57 : decode cX8_adapts 57 = .ok (.iconst 1, 1) := by decide +kernel
theorem dX8_adapts_58 : decode cX8_adapts 58 = .ok (.if_icmp .ne 17, 3) := by decide +kernel
theorem dX8_adapts_61 : decode cX8_adapts 61 = .ok (.aload_n 0, 1) := by decide +kernel
theorem dX8_adapts_62 : decode cX8_adapts 62 = .ok (.getfield 44, 3) := by decide +kernel
theorem dX8_adapts_65 : decode cX8_adapts 65 = .ok (.iload_n 1, 1) := by decide +kernel
theorem dX8_adapts_66 : decode cX8_adapts 66 = .ok (.iload_n 2, 1) := by decide +kernel
theorem dX8_adapts_67 : decode cX8_adapts 67 = .ok (.iastore, 1) := by decide +kernel
theorem dX8_adapts_68 : decode cX8_adapts 68 = .ok (.aload_n 0, 1) := by decide +kernel
theorem dX8_adapts_69 : decode cX8_adapts 69 = .ok (.getfield 47, 3) := by decide +kernel
theorem dX8_adapts_72 : decode cX8_adapts 72 = .ok (.iload_n 1, 1) := by decide +kernel
theorem dX8_adapts_73 : decode cX8_adapts 73 = .ok (.iload_n 3, 1) := by decide +kernel
theorem dX8_adapts_74 : decode cX8_adapts 74 = .ok (.iastore, 1) := by decide +kernel
theorem dX8_adapts_75 : decode cX8_adapts 75 = .ok (.return_, 1) := by decide +kernel
theorem dX8_closes_0 : decode cX8_closes 0 = .ok (.aload_n 0, 1) := by decide +kernel
theorem dX8_closes_1 : decode cX8_closes 1 = .ok (.getfield 89, 3) := by decide +kernel
theorem dX8_closes_4 : decode cX8_closes 4 = .ok (.iconst 0, 1) := by decide +kernel
theorem dX8_closes_5 : decode cX8_closes 5 = .ok (.iaload, 1) := by decide +kernel
theorem dX8_closes_6 : decode cX8_closes 6 = .ok (.istore_n 1, 1) := by decide +kernel
theorem dX8_closes_7 : decode cX8_closes 7 = .ok (.aload_n 0, 1) := by decide +kernel
theorem dX8_closes_8 : decode cX8_closes 8 = .ok (.getfield 92, 3) := by decide +kernel
theorem dX8_closes_11 : decode cX8_closes 11 = .ok (.iconst 0, 1) := by decide +kernel
theorem dX8_closes_12 : decode cX8_closes 12 = .ok (.iaload, 1) := by decide +kernel
theorem dX8_closes_13 : decode cX8_closes 13 = .ok (.istore_n 2, 1) := by decide +kernel
theorem dX8_closes_14 : decode cX8_closes 14 = .ok (.iload_n 2, 1) := by decide +kernel
theorem dX8_closes_15 : decode cX8_closes 15 = .ok (.iconst (-1), 1) := by decide +kernel
theorem dX8_closes_16 : decode cX8_closes 16 = .ok (.if_icmp .ne 52, 3) := by decide +kernel
theorem dX8_closes_19 : decode cX8_closes 19 = .ok (.aload_n 0, 1) := by decide +kernel
theorem dX8_closes_20 : decode cX8_closes 20 = .ok (.getfield 59, 3) := by decide +kernel
theorem dX8_closes_23 : decode cX8_closes 23 = .ok (.iload_n 1, 1) := by decide +kernel
theorem dX8_closes_24 : decode cX8_closes 24 = .ok (.bipush 63, 2) := by decide +kernel
theorem dX8_closes_26 : decode cX8_closes 26 = .ok (.iastore, 1) := by decide +kernel
theorem dX8_closes_27 : decode cX8_closes 27 = .ok (.aload_n 0, 1) := by decide +kernel
theorem dX8_closes_28 : decode cX8_closes 28 = .ok (.getfield 62, 3) := by decide +kernel
theorem dX8_closes_31 : decode cX8_closes 31 = .ok (.iload_n 1, 1) := by decide +kernel
theorem dX8_closes_32 : decode cX8_closes 32 = .ok (.iconst 0, 1) := by decide +kernel
theorem dX8_closes_33 : decode cX8_closes 33 = .ok (.iastore, 1) := by decide +kernel
theorem dX8_closes_34 : decode cX8_closes 34 = .ok (.aload_n 0, 1) := by decide +kernel
theorem dX8_closes_35 : decode cX8_closes 35 = .ok (.getfield 104, 3) := by decide +kernel
theorem dX8_closes_38 : decode cX8_closes 38 = .ok (.iconst 1, 1) := by decide +kernel
theorem dX8_closes_39 : decode cX8_closes 39 = .ok (.dup2, 1) := by decide +kernel
theorem dX8_closes_40 : decode cX8_closes 40 = .ok (.iaload, 1) := by decide +kernel
theorem dX8_closes_41 : decode cX8_closes 41 = .ok (.iconst 1, 1) := by decide +kernel
theorem dX8_closes_42 : decode cX8_closes 42 = .ok (.iadd, 1) := by decide +kernel
theorem dX8_closes_43 : decode cX8_closes 43 = .ok (.iastore, 1) := by decide +kernel
theorem dX8_closes_44 : decode cX8_closes 44 = .ok (.aload_n 0, 1) := by decide +kernel
theorem dX8_closes_45 : decode cX8_closes 45 = .ok (.iload_n 1, 1) := by decide +kernel
theorem dX8_closes_46 : decode cX8_closes 46 = .ok (.invokevirtual 209, 3) := by decide +kernel
theorem dX8_closes_49 : decode cX8_closes 49 = .ok (.ifCond .eq 17, 3) := by decide +kernel
theorem dX8_closes_52 : decode cX8_closes 52 = .ok (.aload_n 0, 1) := by decide +kernel
theorem dX8_closes_53 : decode cX8_closes 53 = .ok (.getfield 53, 3) := by decide +kernel
theorem dX8_closes_56 : decode cX8_closes 56 = .ok (.iload_n 1, 1) := by decide +kernel
theorem dX8_closes_57 : decode cX8_closes 57 = .ok (.iconst 1, 1) := by decide +kernel
theorem dX8_closes_58 : decode cX8_closes 58 = .ok (.iastore, 1) := by decide +kernel
theorem dX8_closes_59 : decode cX8_closes 59 = .ok (.aload_n 0, 1) := by decide +kernel
theorem dX8_closes_60 : decode cX8_closes 60 = .ok (.getfield 50, 3) := by decide +kernel
theorem dX8_closes_63 : decode cX8_closes 63 = .ok (.iload_n 1, 1) := by decide +kernel
theorem dX8_closes_64 : decode cX8_closes 64 = .ok (.iconst 0, 1) := by decide +kernel
theorem dX8_closes_65 : decode cX8_closes 65 = .ok (.iastore, 1) := by decide +kernel
theorem dX8_closes_66 : decode cX8_closes 66 = .ok (.iconst 1, 1) := by decide +kernel
theorem dX8_closes_67 : decode cX8_closes 67 = .ok (.ireturn, 1) := by decide +kernel
theorem dX8_closes_68 : decode cX8_closes 68 = .ok (.aload_n 0, 1) := by decide +kernel
theorem dX8_closes_69 : decode cX8_closes 69 = .ok (.iload_n 1, 1) := by decide +kernel
theorem dX8_closes_70 : decode cX8_closes 70 = .ok (.iload_n 2, 1) := by decide +kernel
theorem dX8_closes_71 : decode cX8_closes 71 = .ok (.invokevirtual 190, 3) := by decide +kernel
theorem dX8_closes_74 : decode cX8_closes 74 = .ok (.ifCond .ne 15, 3) := by decide +kernel
theorem dX8_closes_77 : decode cX8_closes 77 = .ok (.aload_n 0, 1) := by decide +kernel
theorem dX8_closes_78 : decode cX8_closes 78 = .ok (.getfield 104, 3) := by decide +kernel
theorem dX8_closes_81 : decode cX8_closes 81 = .ok (.iconst 2, 1) := by decide +kernel
theorem dX8_closes_82 : decode cX8_closes 82 = .ok (.dup2, 1) := by decide +kernel
theorem dX8_closes_83 : decode cX8_closes 83 = .ok (.iaload, 1) := by decide +kernel
theorem dX8_closes_84 : decode cX8_closes 84 = .ok (.iconst 1, 1) := by decide +kernel
theorem dX8_closes_85 : decode cX8_closes 85 = .ok (.iadd, 1) := by decide +kernel
theorem dX8_closes_86 : decode cX8_closes 86 = .ok (.iastore, 1) := by decide +kernel
theorem dX8_closes_87 : decode cX8_closes 87 = .ok (.iconst 0, 1) := by decide +kernel
theorem dX8_closes_88 : decode cX8_closes 88 = .ok (.ireturn, 1) := by decide +kernel
theorem dX8_closes_89 : decode cX8_closes 89 = .ok (.aload_n 0, 1) := by decide +kernel
theorem dX8_closes_90 : decode cX8_closes 90 = .ok (.getfield 71, 3) := by decide +kernel
theorem dX8_closes_93 : decode cX8_closes 93 = .ok (.iload_n 1, 1) := by decide +kernel
theorem dX8_closes_94 : decode cX8_closes 94 = .ok (.dup2, 1) := by decide +kernel
theorem dX8_closes_95 : decode cX8_closes 95 = .ok (.iaload, 1) := by decide +kernel
theorem dX8_closes_96 : decode cX8_closes 96 = .ok (.aload_n 0, 1) := by decide +kernel
theorem dX8_closes_97 : decode cX8_closes 97 = .ok (.iload_n 1, 1) := by decide +kernel
theorem dX8_closes_98 : decode cX8_closes 98 = .ok (.iload_n 2, 1) := by decide +kernel
theorem dX8_closes_99 : decode cX8_closes 99 = .ok (.invokevirtual 180, 3) := by decide +kernel
theorem dX8_closes_102 : decode cX8_closes 102 = .ok (.iconst 1, 1) := by decide +kernel
theorem dX8_closes_103 : decode cX8_closes 103 = .ok (.isub, 1) := by decide +kernel
theorem dX8_closes_104 : decode cX8_closes 104 = .ok (.iadd, 1) := by decide +kernel
theorem dX8_closes_105 : decode cX8_closes 105 = .ok (.iastore, 1) := by decide +kernel
theorem dX8_closes_106 : decode cX8_closes 106 = .ok (.aload_n 0, 1) := by decide +kernel
theorem dX8_closes_107 : decode cX8_closes 107 = .ok (.getfield 59, 3) := by decide +kernel
theorem dX8_closes_110 : decode cX8_closes 110 = .ok (.iload_n 1, 1) := by decide +kernel
theorem dX8_closes_111 : decode cX8_closes 111 = .ok (.iload_n 2, 1) := by decide +kernel

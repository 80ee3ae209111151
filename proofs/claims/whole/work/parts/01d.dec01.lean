theorem dX4_readNumber_63 : decode cX4_readNumber 63 = .ok (.iload_n 2, 1) := by decide +kernel
theorem dX4_readNumber_64 : decode cX4_readNumber 64 = .ok (.isub, 1) := by decide +kernel
theorem dX4_readNumber_65 : decode cX4_readNumber 65 = .ok (.istore 4, 2) := by decide +kernel
theorem dX4_readNumber_67 : decode cX4_readNumber 67 = .ok (.iload 4, 2) := by decide +kernel
theorem dX4_readNumber_69 : decode cX4_readNumber 69 = .ok (.ifCond .eq 14, 3) := by decide +kernel
theorem dX4_readNumber_72 : decode cX4_readNumber 72 = .ok (.iload 4, 2) := by decide +kernel
theorem dX4_readNumber_74 : decode cX4_readNumber 74 = .ok (.iconst 2, 1) := by decide +kernel
theorem dX4_readNumber_75 : decode cX4_readNumber 75 = .ok (.if_icmp .gt 8, 3) := by decide +kernel
theorem dX4_readNumber_78 : decode cX4_readNumber 78 = .ok (.iload_n 3, 1) := by decide +kernel
theorem dX4_readNumber_79 : decode cX4_readNumber 79 = .ok (.iload_n 1, 1) := by decide +kernel
theorem dX4_readNumber_80 : decode cX4_readNumber 80 = .ok (.if_icmp .le 10, 3) := by decide +kernel
theorem dX4_readNumber_83 : decode cX4_readNumber 83 = .ok (.aload_n 0, 1) := by decide +kernel
theorem dX4_readNumber_84 : decode cX4_readNumber 84 = .ok (.iload_n 2, 1) := by decide +kernel
theorem dX4_readNumber_85 : decode cX4_readNumber 85 = .ok (.putfield 31, 3) := by decide +kernel
theorem dX4_readNumber_88 : decode cX4_readNumber 88 = .ok (.iconst (-1), 1) := by decide +kernel
theorem dX4_readNumber_89 : decode cX4_readNumber 89 = .ok (.ireturn, 1) := by decide +kernel
theorem dX4_readNumber_90 : decode cX4_readNumber 90 = .ok (.iload_n 3, 1) := by decide +kernel
theorem dX4_readNumber_91 : decode cX4_readNumber 91 = .ok (.ireturn, 1) := by decide +kernel
theorem dX4_readEnd_0 : decode cX4_readEnd 0 = .ok (.aload_n 0, 1) := by decide +kernel
theorem dX4_readEnd_1 : decode cX4_readEnd 1 = .ok (.invokevirtual 34, 3) := by decide +kernel
theorem dX4_readEnd_4 : decode cX4_readEnd 4 = .ok (.aload_n 0, 1) := by decide +kernel
theorem dX4_readEnd_5 : decode cX4_readEnd 5 = .ok (.getfield 31, 3) := by decide +kernel
theorem dX4_readEnd_8 : decode cX4_readEnd 8 = .ok (.aload_n 0, 1) := by decide +kernel
theorem dX4_readEnd_9 : decode cX4_readEnd 9 = .ok (.getfield 37, 3) := by decide +kernel
theorem dX4_readEnd_12 : decode cX4_readEnd 12 = .ok (.if_icmp .ge 17, 3) := by decide +kernel
theorem dX4_readEnd_15 : decode cX4_readEnd 15 = .ok (.aload_n 0, 1) := by decide +kernel
theorem dX4_readEnd_16 : decode cX4_readEnd 16 = .ok (.getfield 9, 3) := by decide +kernel
theorem dX4_readEnd_19 : decode cX4_readEnd 19 = .ok (.aload_n 0, 1) := by decide +kernel
theorem dX4_readEnd_20 : decode cX4_readEnd 20 = .ok (.getfield 31, 3) := by decide +kernel
theorem dX4_readEnd_23 : decode cX4_readEnd 23 = .ok (.iaload, 1) := by decide +kernel
theorem dX4_readEnd_24 : decode cX4_readEnd 24 = .ok (.bipush 59, 2) := by decide +kernel
theorem dX4_readEnd_26 : decode cX4_readEnd 26 = .ok (.if_icmp .eq 5, 3) := by decide +kernel
theorem dX4_readEnd_29 : decode cX4_readEnd 29 = .ok (.iconst 0, 1) := by decide +kernel
theorem dX4_readEnd_30 : decode cX4_readEnd 30 = .ok (.ireturn, 1) := by decide +kernel
theorem dX4_readEnd_31 : decode cX4_readEnd 31 = .ok (.aload_n 0, 1) := by decide +kernel
theorem dX4_readEnd_32 : decode cX4_readEnd 32 = .ok (.dup, 1) := by decide +kernel
theorem dX4_readEnd_33 : decode cX4_readEnd 33 = .ok (.getfield 31, 3) := by decide +kernel
theorem dX4_readEnd_36 : decode cX4_readEnd 36 = .ok (.iconst 1, 1) := by decide +kernel
theorem dX4_readEnd_37 : decode cX4_readEnd 37 = .ok (.iadd, 1) := by decide +kernel
theorem dX4_readEnd_38 : decode cX4_readEnd 38 = .ok (.putfield 31, 3) := by decide +kernel
theorem dX4_readEnd_41 : decode cX4_readEnd 41 = .ok (.iconst 1, 1) := by decide +kernel
theorem dX4_readEnd_42 : decode cX4_readEnd 42 = .ok (.ireturn, 1) := by decide +kernel
theorem dX5_init_0 : decode cX5_init 0 = .ok (.aload_n 0, 1) := by decide +kernel
theorem dX5_init_1 : decode cX5_init 1 = .ok (.invokespecial 3, 3) := by decide +kernel
theorem dX5_init_4 : decode cX5_init 4 = .ok (.return_, 1) := by decide +kernel
theorem dX5_find_0 : decode cX5_find 0 = .ok (.aload_n 0, 1) := by decide +kernel
theorem dX5_find_1 : decode cX5_find 1 = .ok (.iload_n 1, 1) := by decide +kernel
theorem dX5_find_2 : decode cX5_find 2 = .ok (.putfield 9, 3) := by decide +kernel
theorem dX5_find_5 : decode cX5_find 5 = .ok (.aload_n 0, 1) := by decide +kernel
theorem dX5_find_6 : decode cX5_find 6 = .ok (.iload_n 2, 1) := by decide +kernel
theorem dX5_find_7 : decode cX5_find 7 = .ok (.putfield 15, 3) := by decide +kernel
theorem dX5_find_10 : decode cX5_find 10 = .ok (.iload_n 3, 1) := by decide +kernel
theorem dX5_find_11 : decode cX5_find 11 = .ok (.bipush 6, 2) := by decide +kernel
theorem dX5_find_13 : decode cX5_find 13 = .ok (.isub, 1) := by decide +kernel
theorem dX5_find_14 : decode cX5_find 14 = .ok (.istore 4, 2) := by decide +kernel
theorem dX5_find_16 : decode cX5_find 16 = .ok (.iload 4, 2) := by decide +kernel
theorem dX5_find_18 : decode cX5_find 18 = .ok (.iconst 5, 1) := by decide +kernel
theorem dX5_find_19 : decode cX5_find 19 = .ok (.if_icmp .lt 27, 3) := by decide +kernel
theorem dX5_find_22 : decode cX5_find 22 = .ok (.aload_n 0, 1) := by decide +kernel
theorem dX5_find_23 : decode cX5_find 23 = .ok (.getfield 9, 3) := by decide +kernel
theorem dX5_find_26 : decode cX5_find 26 = .ok (.iconst 5, 1) := by decide +kernel
theorem dX5_find_27 : decode cX5_find 27 = .ok (.if_icmp .ge 19, 3) := by decide +kernel
theorem dX5_find_30 : decode cX5_find 30 = .ok (.aload_n 0, 1) := by decide +kernel
theorem dX5_find_31 : decode cX5_find 31 = .ok (.dup, 1) := by decide +kernel
theorem dX5_find_32 : decode cX5_find 32 = .ok (.getfield 9, 3) := by decide +kernel
theorem dX5_find_35 : decode cX5_find 35 = .ok (.iconst 1, 1) := by decide +kernel
theorem dX5_find_36 : decode cX5_find 36 = .ok (.iadd, 1) := by decide +kernel
theorem dX5_find_37 : decode cX5_find 37 = .ok (.putfield 9, 3) := by decide +kernel
theorem dX5_find_40 : decode cX5_find 40 = .ok (.iinc 4 (-5), 3) := by decide +kernel
theorem dX5_find_43 : decode cX5_find 43 = .ok (.goto (-27), 3) := by decide +kernel
theorem dX5_find_46 : decode cX5_find 46 = .ok (.iload 4, 2) := by decide +kernel
theorem dX5_find_48 : decode cX5_find 48 = .ok (.iconst 2, 1) := by decide +kernel
theorem dX5_find_49 : decode cX5_find 49 = .ok (.if_icmp .lt 26, 3) := by decide +kernel
theorem dX5_find_52 : decode cX5_find 52 = .ok (.aload_n 0, 1) := by decide +kernel
theorem dX5_find_53 : decode cX5_find 53 = .ok (.getfield 15, 3) := by decide +kernel
theorem dX5_find_56 : decode cX5_find 56 = .ok (.ifCond .le 19, 3) := by decide +kernel
theorem dX5_find_59 : decode cX5_find 59 = .ok (.aload_n 0, 1) := by decide +kernel
theorem dX5_find_60 : decode cX5_find 60 = .ok (.dup, 1) := by decide +kernel
theorem dX5_find_61 : decode cX5_find 61 = .ok (.getfield 15, 3) := by decide +kernel
theorem dX5_find_64 : decode cX5_find 64 = .ok (.iconst 1, 1) := by decide +kernel
theorem dX5_find_65 : decode cX5_find 65 = .ok (.isub, 1) := by decide +kernel
theorem dX5_find_66 : decode cX5_find 66 = .ok (.putfield 15, 3) := by decide +kernel
theorem dX5_find_69 : decode cX5_find 69 = .ok (.iinc 4 (-2), 3) := by decide +kernel
theorem dX5_find_72 : decode cX5_find 72 = .ok (.goto (-26), 3) := by decide +kernel
theorem dX5_find_75 : decode cX5_find 75 = .ok (.iload 4, 2) := by decide +kernel
theorem dX5_find_77 : decode cX5_find 77 = .ok (.ifCond .ge 27, 3) := by decide +kernel
theorem dX5_find_80 : decode cX5_find 80 = .ok (.aload_n 0, 1) := by decide +kernel
theorem dX5_find_81 : decode cX5_find 81 = .ok (.getfield 15, 3) := by decide +kernel
theorem dX5_find_84 : decode cX5_find 84 = .ok (.iconst 4, 1) := by decide +kernel
theorem dX5_find_85 : decode cX5_find 85 = .ok (.if_icmp .ge 19, 3) := by decide +kernel
theorem dX5_find_88 : decode cX5_find 88 = .ok (.aload_n 0, 1) := by decide +kernel
theorem dX5_find_89 : decode cX5_find 89 = .ok (.dup, 1) := by decide +kernel
theorem dX5_find_90 : decode cX5_find 90 = .ok (.getfield 15, 3) := by decide +kernel
theorem dX5_find_93 : decode cX5_find 93 = .ok (.iconst 1, 1) := by decide +kernel
theorem dX5_find_94 : decode cX5_find 94 = .ok (.iadd, 1) := by decide +kernel
theorem dX5_find_95 : decode cX5_find 95 = .ok (.putfield 15, 3) := by decide +kernel
theorem dX5_find_98 : decode cX5_find 98 = .ok (.iinc 4 2, 3) := by decide +kernel
theorem dX5_find_101 : decode cX5_find 101 = .ok (.goto (-26), 3) := by decide +kernel
theorem dX5_find_104 : decode cX5_find 104 = .ok (.iload 4, 2) := by decide +kernel
theorem dX5_find_106 : decode cX5_find 106 = .ok (.ifCond .ge 26, 3) := by decide +kernel
theorem dX5_find_109 : decode cX5_find 109 = .ok (.aload_n 0, 1) := by decide +kernel
theorem dX5_find_110 : decode cX5_find 110 = .ok (.getfield 9, 3) := by decide +kernel
theorem dX5_find_113 : decode cX5_find 113 = .ok (.ifCond .le 19, 3) := by decide +kernel
theorem dX5_find_116 : decode cX5_find 116 = .ok (.aload_n 0, 1) := by decide +kernel
theorem dX5_find_117 : decode cX5_find 117 = .ok (.dup, 1) := by decide +kernel
theorem dX5_find_118 : decode cX5_find 118 = .ok (.getfield 9, 3) := by decide +kernel
theorem dX5_find_121 : decode cX5_find 121 = .ok (.iconst 1, 1) := by decide +kernel
theorem dX5_find_122 : decode cX5_find 122 = .ok (.isub, 1) := by decide +kernel
theorem dX5_find_123 : decode cX5_find 123 = .ok (.putfield 9, 3) := by decide +kernel
theorem dX5_find_126 : decode cX5_find 126 = .ok (.iinc 4 5, 3) := by decide +kernel
theorem dX5_find_129 : decode cX5_find 129 = .ok (.goto (-25), 3) := by decide +kernel
theorem dX5_find_132 : decode cX5_find 132 = .ok (.return_, 1) := by decide +kernel
theorem dX6_init_0 : decode cX6_init 0 = .ok (.aload_n 0, 1) := by decide +kernel
theorem dX6_init_1 : decode cX6_init 1 = .ok (.invokespecial 3, 3) := by decide +kernel
theorem dX6_init_4 : decode cX6_init 4 = .ok (.aload_n 0, 1) := by decide +kernel
theorem dX6_init_5 : decode cX6_init 5 = .ok (.sipush 390, 3) := by decide +kernel
theorem dX6_init_8 : decode cX6_init 8 = .ok (.newarray .int, 2) := by decide +kernel
theorem dX6_init_10 : decode cX6_init 10 = .ok (.putfield 9, 3) := by decide +kernel
theorem dX6_init_13 : decode cX6_init 13 = .ok (.aload_n 0, 1) := by decide +kernel
theorem dX6_init_14 : decode cX6_init 14 = .ok (.sipush 390, 3) := by decide +kernel
theorem dX6_init_17 : decode cX6_init 17 = .ok (.newarray .int, 2) := by decide +kernel
theorem dX6_init_19 : decode cX6_init 19 = .ok (.putfield 15, 3) := by decide +kernel
theorem dX6_init_22 : decode cX6_init 22 = .ok (.aload_n 0, 1) := by decide +kernel
theorem dX6_init_23 : decode cX6_init 23 = .ok (.sipush 390, 3) := by decide +kernel
theorem dX6_init_26 : decode cX6_init 26 = .ok (.newarray .int, 2) := by decide +kernel
theorem dX6_init_28 : decode cX6_init 28 = .ok (.putfield 18, 3) := by decide +kernel
theorem dX6_init_31 : decode cX6_init 31 = .ok (.aload_n 0, 1) := by decide +kernel
theorem dX6_init_32 : decode cX6_init 32 = .ok (.sipush 1560, 3) := by decide +kernel
theorem dX6_init_35 : decode cX6_init 35 = .ok (.newarray .int, 2) := by decide +kernel
theorem dX6_init_37 : decode cX6_init 37 = .ok (.putfield 21, 3) := by decide +kernel
theorem dX6_init_40 : decode cX6_init 40 = .ok (.return_, 1) := by decide +kernel
theorem dX6_find_0 : decode cX6_find 0 = .ok (.iconst 0, 1) := by decide +kernel
theorem dX6_find_1 : decode cX6_find 1 = .ok (.istore_n 3, 1) := by decide +kernel
theorem dX6_find_2 : decode cX6_find 2 = .ok (.iload_n 3, 1) := by decide +kernel
theorem dX6_find_3 : decode cX6_find 3 = .ok (.aload_n 0, 1) := by decide +kernel
theorem dX6_find_4 : decode cX6_find 4 = .ok (.getfield 24, 3) := by decide +kernel
theorem dX6_find_7 : decode cX6_find 7 = .ok (.if_icmp .ge 31, 3) := by decide +kernel
theorem dX6_find_10 : decode cX6_find 10 = .ok (.aload_n 0, 1) := by decide +kernel
theorem dX6_find_11 : decode cX6_find 11 = .ok (.getfield 9, 3) := by decide +kernel
theorem dX6_find_14 : decode cX6_find 14 = .ok (.iload_n 3, 1) := by decide +kernel
theorem dX6_find_15 : decode cX6_find 15 = .ok (.iaload, 1) := by decide +kernel
theorem dX6_find_16 : decode cX6_find 16 = .ok (.iload_n 1, 1) := by decide +kernel
theorem dX6_find_17 : decode cX6_find 17 = .ok (.if_icmp .ne 15, 3) := by decide +kernel
theorem dX6_find_20 : decode cX6_find 20 = .ok (.aload_n 0, 1) := by decide +kernel
theorem dX6_find_21 : decode cX6_find 21 = .ok (.getfield 15, 3) := by decide +kernel
theorem dX6_find_24 : decode cX6_find 24 = .ok (.iload_n 3, 1) := by decide +kernel
theorem dX6_find_25 : decode cX6_find 25 = .ok (.iaload, 1) := by decide +kernel
theorem dX6_find_26 : decode cX6_find 26 = .ok (.iload_n 2, 1) := by decide +kernel
theorem dX6_find_27 : decode cX6_find 27 = .ok (.if_icmp .ne 5, 3) := by decide +kernel
theorem dX6_find_30 : decode cX6_find 30 = .ok (.iload_n 3, 1) := by decide +kernel
theorem dX6_find_31 : decode cX6_find 31 = .ok (.ireturn, 1) := by decide +kernel
theorem dX6_find_32 : decode cX6_find 32 = .ok (.iinc 3 1, 3) := by decide +kernel
theorem dX6_find_35 : decode cX6_find 35 = .ok (.goto (-33), 3) := by decide +kernel
theorem dX6_find_38 : decode cX6_find 38 = .ok (.iconst (-1), 1) := by decide +kernel
theorem dX6_find_39 : decode cX6_find 39 = .ok (.ireturn, 1) := by decide +kernel
theorem dX6_open_0 : decode cX6_open 0 = .ok (.aload_n 0, 1) := by decide +kernel
theorem dX6_open_1 : decode cX6_open 1 = .ok (.getfield 24, 3) := by decide +kernel
theorem dX6_open_4 : decode cX6_open 4 = .ok (.sipush 390, 3) := by decide +kernel
theorem dX6_open_7 : decode cX6_open 7 = .ok (.if_icmp .ge 73, 3) := by decide +kernel
theorem dX6_open_10 : decode cX6_open 10 = .ok (.aload_n 0, 1) := by decide +kernel
theorem dX6_open_11 : decode cX6_open 11 = .ok (.getfield 9, 3) := by decide +kernel
theorem dX6_open_14 : decode cX6_open 14 = .ok (.aload_n 0, 1) := by decide +kernel
theorem dX6_open_15 : decode cX6_open 15 = .ok (.getfield 24, 3) := by decide +kernel
theorem dX6_open_18 : decode cX6_open 18 = .ok (.iload_n 1, 1) := by decide +kernel
theorem dX6_open_19 : decode cX6_open 19 = .ok (.iastore, 1) := by decide +kernel
theorem dX6_open_20 : decode cX6_open 20 = .ok (.aload_n 0, 1) := by decide +kernel
theorem dX6_open_21 : decode cX6_open 21 = .ok (.getfield 15, 3) := by decide +kernel
theorem dX6_open_24 : decode cX6_open 24 = .ok (.aload_n 0, 1) := by decide +kernel
theorem dX6_open_25 : decode cX6_open 25 = .ok (.getfield 24, 3) := by decide +kernel
theorem dX6_open_28 : decode cX6_open 28 = .ok (.iload_n 2, 1) := by decide +kernel
theorem dX6_open_29 : decode cX6_open 29 = .ok (.iastore, 1) := by decide +kernel
theorem dX6_open_30 : decode cX6_open 30 = .ok (.aload_n 0, 1) := by decide +kernel
theorem dX6_open_31 : decode cX6_open 31 = .ok (.getfield 18, 3) := by decide +kernel
theorem dX6_open_34 : decode cX6_open 34 = .ok (.aload_n 0, 1) := by decide +kernel
theorem dX6_open_35 : decode cX6_open 35 = .ok (.getfield 24, 3) := by decide +kernel
theorem dX6_open_38 : decode cX6_open 38 = .ok (.iload_n 3, 1) := by decide +kernel
theorem dX6_open_39 : decode cX6_open 39 = .ok (.iastore, 1) := by decide +kernel
theorem dX6_open_40 : decode cX6_open 40 = .ok (.iconst 0, 1) := by decide +kernel
theorem dX6_open_41 : decode cX6_open 41 = .ok (.istore 4, 2) := by decide +kernel
theorem dX6_open_43 : decode cX6_open 43 = .ok (.iload 4, 2) := by decide +kernel
theorem dX6_open_45 : decode cX6_open 45 = .ok (.iconst 4, 1) := by decide +kernel
theorem dX6_open_46 : decode cX6_open 46 = .ok (.if_icmp .ge 24, 3) := by decide +kernel
theorem dX6_open_49 : decode cX6_open 49 = .ok (.aload_n 0, 1) := by decide +kernel
theorem dX6_open_50 : decode cX6_open 50 = .ok (.getfield 21, 3) := by decide +kernel
theorem dX6_open_53 : decode cX6_open 53 = .ok (.aload_n 0, 1) := by decide +kernel
theorem dX6_open_54 : decode cX6_open 54 = .ok (.getfield 24, 3) := by decide +kernel
theorem dX6_open_57 : decode cX6_open 57 = .ok (.iconst 4, 1) := by decide +kernel
theorem dX6_open_58 : decode cX6_open 58 = .ok (.imul, 1) := by decide +kernel
theorem dX6_open_59 : decode cX6_open 59 = .ok (.iload 4, 2) := by decide +kernel
theorem dX6_open_61 : decode cX6_open 61 = .ok (.iadd, 1) := by decide +kernel
theorem dX6_open_62 : decode cX6_open 62 = .ok (.iconst (-1), 1) := by decide +kernel
theorem dX6_open_63 : decode cX6_open 63 = .ok (.iastore, 1) := by decide +kernel
theorem dX6_open_64 : decode cX6_open 64 = .ok (.iinc 4 1, 3) := by decide +kernel
theorem dX6_open_67 : decode cX6_open 67 = .ok (.goto (-24), 3) := by decide +kernel
theorem dX6_open_70 : decode cX6_open 70 = .ok (.aload_n 0, 1) := by decide +kernel
theorem dX6_open_71 : decode cX6_open 71 = .ok (.dup, 1) := by decide +kernel
theorem dX6_open_72 : decode cX6_open 72 = .ok (.getfield 24, 3) := by decide +kernel
theorem dX6_open_75 : decode cX6_open 75 = .ok (.iconst 1, 1) := by decide +kernel
theorem dX6_open_76 : decode cX6_open 76 = .ok (.iadd, 1) := by decide +kernel
theorem dX6_open_77 : decode cX6_open 77 = .ok (.putfield 24, 3) := by decide +kernel
theorem dX6_open_80 : decode cX6_open 80 = .ok (.return_, 1) := by decide +kernel
theorem dX6_hear_0 : decode cX6_hear 0 = .ok (.iload_n 1, 1) := by decide +kernel
theorem dX6_hear_1 : decode cX6_hear 1 = .ok (.ifCond .lt 36, 3) := by decide +kernel
theorem dX6_hear_4 : decode cX6_hear 4 = .ok (.iload_n 1, 1) := by decide +kernel
theorem dX6_hear_5 : decode cX6_hear 5 = .ok (.aload_n 0, 1) := by decide +kernel
theorem dX6_hear_6 : decode cX6_hear 6 = .ok (.getfield 24, 3) := by decide +kernel
theorem dX6_hear_9 : decode cX6_hear 9 = .ok (.if_icmp .ge 28, 3) := by decide +kernel
theorem dX6_hear_12 : decode cX6_hear 12 = .ok (.iload_n 1, 1) := by decide +kernel
theorem dX6_hear_13 : decode cX6_hear 13 = .ok (.iconst 4, 1) := by decide +kernel
theorem dX6_hear_14 : decode cX6_hear 14 = .ok (.imul, 1) := by decide +kernel
theorem dX6_hear_15 : decode cX6_hear 15 = .ok (.iload_n 2, 1) := by decide +kernel
theorem dX6_hear_16 : decode cX6_hear 16 = .ok (.iadd, 1) := by decide +kernel
theorem dX6_hear_17 : decode cX6_hear 17 = .ok (.istore 4, 2) := by decide +kernel
theorem dX6_hear_19 : decode cX6_hear 19 = .ok (.aload_n 0, 1) := by decide +kernel
theorem dX6_hear_20 : decode cX6_hear 20 = .ok (.getfield 21, 3) := by decide +kernel
theorem dX6_hear_23 : decode cX6_hear 23 = .ok (.iload 4, 2) := by decide +kernel
theorem dX6_hear_25 : decode cX6_hear 25 = .ok (.aload_n 0, 1) := by decide +kernel
theorem dX6_hear_26 : decode cX6_hear 26 = .ok (.getfield 21, 3) := by decide +kernel
theorem dX6_hear_29 : decode cX6_hear 29 = .ok (.iload 4, 2) := by decide +kernel
theorem dX6_hear_31 : decode cX6_hear 31 = .ok (.iaload, 1) := by decide +kernel
theorem dX6_hear_32 : decode cX6_hear 32 = .ok (.iload_n 3, 1) := by decide +kernel
theorem dX6_hear_33 : decode cX6_hear 33 = .ok (.invokestatic 28, 3) := by decide +kernel
theorem dX6_hear_36 : decode cX6_hear 36 = .ok (.iastore, 1) := by decide +kernel
theorem dX6_hear_37 : decode cX6_hear 37 = .ok (.return_, 1) := by decide +kernel
theorem dX6_heardAt_0 : decode cX6_heardAt 0 = .ok (.aload_n 0, 1) := by decide +kernel
theorem dX6_heardAt_1 : decode cX6_heardAt 1 = .ok (.getfield 21, 3) := by decide +kernel
theorem dX6_heardAt_4 : decode cX6_heardAt 4 = .ok (.iload_n 1, 1) := by decide +kernel
theorem dX6_heardAt_5 : decode cX6_heardAt 5 = .ok (.iconst 4, 1) := by decide +kernel
theorem dX6_heardAt_6 : decode cX6_heardAt 6 = .ok (.imul, 1) := by decide +kernel
theorem dX6_heardAt_7 : decode cX6_heardAt 7 = .ok (.iload_n 2, 1) := by decide +kernel
theorem dX6_heardAt_8 : decode cX6_heardAt 8 = .ok (.iadd, 1) := by decide +kernel
theorem dX6_heardAt_9 : decode cX6_heardAt 9 = .ok (.iaload, 1) := by decide +kernel
theorem dX6_heardAt_10 : decode cX6_heardAt 10 = .ok (.ireturn, 1) := by decide +kernel
theorem dX6_bestGate_0 : decode cX6_bestGate 0 = .ok (.iconst 0, 1) := by decide +kernel
theorem dX6_bestGate_1 : decode cX6_bestGate 1 = .ok (.istore_n 2, 1) := by decide +kernel
theorem dX6_bestGate_2 : decode cX6_bestGate 2 = .ok (.iconst 1, 1) := by decide +kernel
theorem dX6_bestGate_3 : decode cX6_bestGate 3 = .ok (.istore_n 3, 1) := by decide +kernel
theorem dX6_bestGate_4 : decode cX6_bestGate 4 = .ok (.iload_n 3, 1) := by decide +kernel
theorem dX6_bestGate_5 : decode cX6_bestGate 5 = .ok (.iconst 4, 1) := by decide +kernel
theorem dX6_bestGate_6 : decode cX6_bestGate 6 = .ok (.if_icmp .ge 26, 3) := by decide +kernel
theorem dX6_bestGate_9 : decode cX6_bestGate 9 = .ok (.aload_n 0, 1) := by decide +kernel
theorem dX6_bestGate_10 : decode cX6_bestGate 10 = .ok (.iload_n 1, 1) := by decide +kernel
theorem dX6_bestGate_11 : decode cX6_bestGate 11 = .ok (.iload_n 3, 1) := by decide +kernel
theorem dX6_bestGate_12 : decode cX6_bestGate 12 = .ok (.invokevirtual 34, 3) := by decide +kernel
theorem dX6_bestGate_15 : decode cX6_bestGate 15 = .ok (.aload_n 0, 1) := by decide +kernel
theorem dX6_bestGate_16 : decode cX6_bestGate 16 = .ok (.iload_n 1, 1) := by decide +kernel
theorem dX6_bestGate_17 : decode cX6_bestGate 17 = .ok (.iload_n 2, 1) := by decide +kernel
theorem dX6_bestGate_18 : decode cX6_bestGate 18 = .ok (.invokevirtual 34, 3) := by decide +kernel
theorem dX6_bestGate_21 : decode cX6_bestGate 21 = .ok (.if_icmp .le 5, 3) := by decide +kernel
theorem dX6_bestGate_24 : decode cX6_bestGate 24 = .ok (.iload_n 3, 1) := by decide +kernel
theorem dX6_bestGate_25 : decode cX6_bestGate 25 = .ok (.istore_n 2, 1) := by decide +kernel
theorem dX6_bestGate_26 : decode cX6_bestGate 26 = .ok (.iinc 3 1, 3) := by decide +kernel
theorem dX6_bestGate_29 : decode cX6_bestGate 29 = .ok (.goto (-25), 3) := by decide +kernel
theorem dX6_bestGate_32 : decode cX6_bestGate 32 = .ok (.iload_n 2, 1) := by decide +kernel
theorem dX6_bestGate_33 : decode cX6_bestGate 33 = .ok (.ireturn, 1) := by decide +kernel
theorem dX6_dropFirst_0 : decode cX6_dropFirst 0 = .ok (.aload_n 0, 1) := by decide +kernel
theorem dX6_dropFirst_1 : decode cX6_dropFirst 1 = .ok (.getfield 24, 3) := by decide +kernel
theorem dX6_dropFirst_4 : decode cX6_dropFirst 4 = .ok (.iload_n 1, 1) := by decide +kernel
theorem dX6_dropFirst_5 : decode cX6_dropFirst 5 = .ok (.isub, 1) := by decide +kernel
theorem dX6_dropFirst_6 : decode cX6_dropFirst 6 = .ok (.istore_n 2, 1) := by decide +kernel
theorem dX6_dropFirst_7 : decode cX6_dropFirst 7 = .ok (.iload_n 1, 1) := by decide +kernel
theorem dX6_dropFirst_8 : decode cX6_dropFirst 8 = .ok (.ifCond .le 72, 3) := by decide +kernel
theorem dX6_dropFirst_11 : decode cX6_dropFirst 11 = .ok (.iload_n 2, 1) := by decide +kernel
theorem dX6_dropFirst_12 : decode cX6_dropFirst 12 = .ok (.ifCond .lt 68, 3) := by decide +kernel
theorem dX6_dropFirst_15 : decode cX6_dropFirst 15 = .ok (.aload_n 0, 1) := by decide +kernel
theorem dX6_dropFirst_16 : decode cX6_dropFirst 16 = .ok (.getfield 9, 3) := by decide +kernel
theorem dX6_dropFirst_19 : decode cX6_dropFirst 19 = .ok (.iload_n 1, 1) := by decide +kernel
theorem dX6_dropFirst_20 : decode cX6_dropFirst 20 = .ok (.aload_n 0, 1) := by decide +kernel
theorem dX6_dropFirst_21 : decode cX6_dropFirst 21 = .ok (.getfield 9, 3) := by decide +kernel
theorem dX6_dropFirst_24 : decode cX6_dropFirst 24 = .ok (.iconst 0, 1) := by decide +kernel
theorem dX6_dropFirst_25 : decode cX6_dropFirst 25 = .ok (.iload_n 2, 1) := by decide +kernel
theorem dX6_dropFirst_26 : decode cX6_dropFirst 26 = .ok (.invokestatic 37, 3) := by decide +kernel
theorem dX6_dropFirst_29 : decode cX6_dropFirst 29 = .ok (.aload_n 0, 1) := by decide +kernel
theorem dX6_dropFirst_30 : decode cX6_dropFirst 30 = .ok (.getfield 15, 3) := by decide +kernel
theorem dX6_dropFirst_33 : decode cX6_dropFirst 33 = .ok (.iload_n 1, 1) := by decide +kernel
theorem dX6_dropFirst_34 : decode cX6_dropFirst 34 = .ok (.aload_n 0, 1) := by decide +kernel
theorem dX6_dropFirst_35 : decode cX6_dropFirst 35 = .ok (.getfield 15, 3) := by decide +kernel
theorem dX6_dropFirst_38 : decode cX6_dropFirst 38 = .ok (.iconst 0, 1) := by decide +kernel
theorem dX6_dropFirst_39 : decode cX6_dropFirst 39 = .ok (.iload_n 2, 1) := by decide +kernel
theorem dX6_dropFirst_40 : decode cX6_dropFirst 40 = .ok (.invokestatic 37, 3) := by decide +kernel
theorem dX6_dropFirst_43 : decode cX6_dropFirst 43 = .ok (.aload_n 0, 1) := by decide +kernel
theorem dX6_dropFirst_44 : decode cX6_dropFirst 44 = .ok (.getfield 18, 3) := by decide +kernel
theorem dX6_dropFirst_47 : decode cX6_dropFirst 47 = .ok (.iload_n 1, 1) := by decide +kernel
theorem dX6_dropFirst_48 : decode cX6_dropFirst 48 = .ok (.aload_n 0, 1) := by decide +kernel
theorem dX6_dropFirst_49 : decode cX6_dropFirst 49 = .ok (.getfield 18, 3) := by decide +kernel
theorem dX6_dropFirst_52 : decode cX6_dropFirst 52 = .ok (.iconst 0, 1) := by decide +kernel
theorem dX6_dropFirst_53 : decode cX6_dropFirst 53 = .ok (.iload_n 2, 1) := by decide +kernel
theorem dX6_dropFirst_54 : decode cX6_dropFirst 54 = .ok (.invokestatic 37, 3) := by decide +kernel
theorem dX6_dropFirst_57 : decode cX6_dropFirst 57 = .ok (.aload_n 0, 1) := by decide +kernel
theorem dX6_dropFirst_58 : decode cX6_dropFirst 58 = .ok (.getfield 21, 3) := by decide +kernel
theorem dX6_dropFirst_61 : decode cX6_dropFirst 61 = .ok (.iload_n 1, 1) := by decide +kernel
theorem dX6_dropFirst_62 : decode cX6_dropFirst 62 = .ok (.iconst 4, 1) := by decide +kernel
theorem dX6_dropFirst_63 : decode cX6_dropFirst 63 = .ok (.imul, 1) := by decide +kernel
theorem dX6_dropFirst_64 : decode cX6_dropFirst 64 = .ok (.aload_n 0, 1) := by decide +kernel
theorem dX6_dropFirst_65 : decode cX6_dropFirst 65 = .ok (.getfield 21, 3) := by decide +kernel
theorem dX6_dropFirst_68 : decode cX6_dropFirst 68 = .ok (.iconst 0, 1) := by decide +kernel
theorem dX6_dropFirst_69 : decode cX6_dropFirst 69 = .ok (.iload_n 2, 1) := by decide +kernel
theorem dX6_dropFirst_70 : decode cX6_dropFirst 70 = .ok (.iconst 4, 1) := by decide +kernel
theorem dX6_dropFirst_71 : decode cX6_dropFirst 71 = .ok (.imul, 1) := by decide +kernel
theorem dX6_dropFirst_72 : decode cX6_dropFirst 72 = .ok (.invokestatic 37, 3) := by decide +kernel
theorem dX6_dropFirst_75 : decode cX6_dropFirst 75 = .ok (.aload_n 0, 1) := by decide +kernel
theorem dX6_dropFirst_76 : decode cX6_dropFirst 76 = .ok (.iload_n 2, 1) := by decide +kernel
theorem dX6_dropFirst_77 : decode cX6_dropFirst 77 = .ok (.putfield 24, 3) := by decide +kernel
theorem dX6_dropFirst_80 : decode cX6_dropFirst 80 = .ok (.return_, 1) := by decide +kernel
theorem dX6_value_0 : decode cX6_value 0 = .ok (.iload_n 2, 1) := by decide +kernel
theorem dX6_value_1 : decode cX6_value 1 = .ok (.lookupswitch 41 #[(0, 27), (1, 34)], 27) := by decide +kernel
theorem dX6_value_28 : decode cX6_value 28 = .ok (.aload_n 0, 1) := by decide +kernel
theorem dX6_value_29 : decode cX6_value 29 = .ok (.getfield 9, 3) := by decide +kernel
theorem dX6_value_32 : decode cX6_value 32 = .ok (.iload_n 1, 1) := by decide +kernel
theorem dX6_value_33 : decode cX6_value 33 = .ok (.iaload, 1) := by decide +kernel
theorem dX6_value_34 : decode cX6_value 34 = .ok (.ireturn, 1) := by decide +kernel
theorem dX6_value_35 : decode cX6_value 35 = .ok (.aload_n 0, 1) := by decide +kernel
theorem dX6_value_36 : decode cX6_value 36 = .ok (.getfield 15, 3) := by decide +kernel
theorem dX6_value_39 : decode cX6_value 39 = .ok (.iload_n 1, 1) := by decide +kernel
theorem dX6_value_40 : decode cX6_value 40 = .ok (.iaload, 1) := by decide +kernel
theorem dX6_value_41 : decode cX6_value 41 = .ok (.ireturn, 1) := by decide +kernel
theorem dX6_value_42 : decode cX6_value 42 = .ok (.aload_n 0, 1) := by decide +kernel
theorem dX6_value_43 : decode cX6_value 43 = .ok (.iload_n 1, 1) := by decide +kernel
theorem dX6_value_44 : decode cX6_value 44 = .ok (.invokevirtual 43, 3) := by decide +kernel
theorem dX6_value_47 : decode cX6_value 47 = .ok (.ireturn, 1) := by decide +kernel
theorem dX6_gateBits_0 : decode cX6_gateBits 0 = .ok (.iconst 0, 1) := by decide +kernel
theorem dX6_gateBits_1 : decode cX6_gateBits 1 = .ok (.istore_n 2, 1) := by decide +kernel
theorem dX6_gateBits_2 : decode cX6_gateBits 2 = .ok (.iconst 0, 1) := by decide +kernel
theorem dX6_gateBits_3 : decode cX6_gateBits 3 = .ok (.istore_n 3, 1) := by decide +kernel
theorem dX6_gateBits_4 : decode cX6_gateBits 4 = .ok (.iload_n 3, 1) := by decide +kernel
theorem dX6_gateBits_5 : decode cX6_gateBits 5 = .ok (.iconst 4, 1) := by decide +kernel
theorem dX6_gateBits_6 : decode cX6_gateBits 6 = .ok (.if_icmp .ge 25, 3) := by decide +kernel
theorem dX6_gateBits_9 : decode cX6_gateBits 9 = .ok (.aload_n 0, 1) := by decide +kernel
theorem dX6_gateBits_10 : decode cX6_gateBits 10 = .ok (.iload_n 1, 1) := by decide +kernel
theorem dX6_gateBits_11 : decode cX6_gateBits 11 = .ok (.iload_n 3, 1) := by decide +kernel
theorem dX6_gateBits_12 : decode cX6_gateBits 12 = .ok (.invokevirtual 34, 3) := by decide +kernel
theorem dX6_gateBits_15 : decode cX6_gateBits 15 = .ok (.iconst (-1), 1) := by decide +kernel
theorem dX6_gateBits_16 : decode cX6_gateBits 16 = .ok (.if_icmp .eq 9, 3) := by decide +kernel
theorem dX6_gateBits_19 : decode cX6_gateBits 19 = .ok (.iload_n 2, 1) := by decide +kernel
theorem dX6_gateBits_20 : decode cX6_gateBits 20 = .ok (.iconst 1, 1) := by decide +kernel
theorem dX6_gateBits_21 : decode cX6_gateBits 21 = .ok (.iload_n 3, 1) := by decide +kernel
theorem dX6_gateBits_22 : decode cX6_gateBits 22 = .ok (.ishl, 1) := by decide +kernel
theorem dX6_gateBits_23 : decode cX6_gateBits 23 = .ok (.ior, 1) := by decide +kernel
theorem dX6_gateBits_24 : decode cX6_gateBits 24 = .ok (.istore_n 2, 1) := by decide +kernel
theorem dX6_gateBits_25 : decode cX6_gateBits 25 = .ok (.iinc 3 1, 3) := by decide +kernel
theorem dX6_gateBits_28 : decode cX6_gateBits 28 = .ok (.goto (-24), 3) := by decide +kernel
theorem dX6_gateBits_31 : decode cX6_gateBits 31 = .ok (.iload_n 2, 1) := by decide +kernel
theorem dX6_gateBits_32 : decode cX6_gateBits 32 = .ok (.ireturn, 1) := by decide +kernel
theorem dX7_init_0 : decode cX7_init 0 = .ok (.aload_n 0, 1) := by decide +kernel
theorem dX7_init_1 : decode cX7_init 1 = .ok (.invokespecial 3, 3) := by decide +kernel
theorem dX7_init_4 : decode cX7_init 4 = .ok (.aload_n 0, 1) := by decide +kernel
theorem dX7_init_5 : decode cX7_init 5 = .ok (.new 9, 3) := by decide +kernel
theorem dX7_init_8 : decode cX7_init 8 = .ok (.dup, 1) := by decide +kernel
theorem dX7_init_9 : decode cX7_init 9 = .ok (.invokespecial 11, 3) := by decide +kernel
theorem dX7_init_12 : decode cX7_init 12 = .ok (.putfield 12, 3) := by decide +kernel
theorem dX7_init_15 : decode cX7_init 15 = .ok (.aload_n 0, 1) := by decide +kernel
theorem dX7_init_16 : decode cX7_init 16 = .ok (.new 16, 3) := by decide +kernel
theorem dX7_init_19 : decode cX7_init 19 = .ok (.dup, 1) := by decide +kernel
theorem dX7_init_20 : decode cX7_init 20 = .ok (.invokespecial 18, 3) := by decide +kernel
theorem dX7_init_23 : decode cX7_init 23 = .ok (.putfield 19, 3) := by decide +kernel
theorem dX7_init_26 : decode cX7_init 26 = .ok (.aload_n 0, 1) := by decide +kernel
theorem dX7_init_27 : decode cX7_init 27 = .ok (.getfield 12, 3) := by decide +kernel
theorem dX7_init_30 : decode cX7_init 30 = .ok (.invokevirtual 23, 3) := by decide +kernel
theorem dX7_init_33 : decode cX7_init 33 = .ok (.return_, 1) := by decide +kernel
theorem dX7_sets_0 : decode cX7_sets 0 = .ok (.iload_n 1, 1) := by decide +kernel
theorem dX7_sets_1 : decode cX7_sets 1 = .ok (.ifCond .lt 21, 3) := by decide +kernel
theorem dX7_sets_4 : decode cX7_sets 4 = .ok (.iload_n 1, 1) := by decide +kernel
theorem dX7_sets_5 : decode cX7_sets 5 = .ok (.iconst 2, 1) := by decide +kernel
theorem dX7_sets_6 : decode cX7_sets 6 = .ok (.if_icmp .gt 16, 3) := by decide +kernel
theorem dX7_sets_9 : decode cX7_sets 9 = .ok (.iload_n 2, 1) := by decide +kernel
theorem dX7_sets_10 : decode cX7_sets 10 = .ok (.iconst 1, 1) := by decide +kernel
theorem dX7_sets_11 : decode cX7_sets 11 = .ok (.if_icmp .lt 11, 3) := by decide +kernel
theorem dX7_sets_14 : decode cX7_sets 14 = .ok (.iload_n 2, 1) := by decide +kernel
theorem dX7_sets_15 : decode cX7_sets 15 = .ok (.iload_n 1, 1) := by decide +kernel
theorem dX7_sets_16 : decode cX7_sets 16 = .ok (.invokestatic 26, 3) := by decide +kernel
theorem dX7_sets_19 : decode cX7_sets 19 = .ok (.if_icmp .le 8, 3) := by decide +kernel
theorem dX7_sets_22 : decode cX7_sets 22 = .ok (.aload_n 0, 1) := by decide +kernel
theorem dX7_sets_23 : decode cX7_sets 23 = .ok (.invokevirtual 30, 3) := by decide +kernel
theorem dX7_sets_26 : decode cX7_sets 26 = .ok (.ireturn, 1) := by decide +kernel
theorem dX7_sets_27 : decode cX7_sets 27 = .ok (.aload_n 0, 1) := by decide +kernel
theorem dX7_sets_28 : decode cX7_sets 28 = .ok (.iload_n 1, 1) := by decide +kernel
theorem dX7_sets_29 : decode cX7_sets 29 = .ok (.invokevirtual 34, 3) := by decide +kernel
theorem dX7_sets_32 : decode cX7_sets 32 = .ok (.istore_n 3, 1) := by decide +kernel
theorem dX7_sets_33 : decode cX7_sets 33 = .ok (.iload_n 1, 1) := by decide +kernel
theorem dX7_sets_34 : decode cX7_sets 34 = .ok (.ifCond .ne 14, 3) := by decide +kernel
theorem dX7_sets_37 : decode cX7_sets 37 = .ok (.aload_n 0, 1) := by decide +kernel
theorem dX7_sets_38 : decode cX7_sets 38 = .ok (.getfield 12, 3) := by decide +kernel
theorem dX7_sets_41 : decode cX7_sets 41 = .ok (.iload_n 2, 1) := by decide +kernel
theorem dX7_sets_42 : decode cX7_sets 42 = .ok (.putfield 37, 3) := by decide +kernel
theorem dX7_sets_45 : decode cX7_sets 45 = .ok (.goto 27, 3) := by decide +kernel
theorem dX7_sets_48 : decode cX7_sets 48 = .ok (.iload_n 1, 1) := by decide +kernel
theorem dX7_sets_49 : decode cX7_sets 49 = .ok (.iconst 1, 1) := by decide +kernel
theorem dX7_sets_50 : decode cX7_sets 50 = .ok (.if_icmp .ne 14, 3) := by decide +kernel
theorem dX7_sets_53 : decode cX7_sets 53 = .ok (.aload_n 0, 1) := by decide +kernel
theorem dX7_sets_54 : decode cX7_sets 54 = .ok (.getfield 12, 3) := by decide +kernel
theorem dX7_sets_57 : decode cX7_sets 57 = .ok (.iload_n 2, 1) := by decide +kernel
theorem dX7_sets_58 : decode cX7_sets 58 = .ok (.putfield 41, 3) := by decide +kernel
theorem dX7_sets_61 : decode cX7_sets 61 = .ok (.goto 11, 3) := by decide +kernel
theorem dX7_sets_64 : decode cX7_sets 64 = .ok (.aload_n 0, 1) := by decide +kernel
theorem dX7_sets_65 : decode cX7_sets 65 = .ok (.getfield 12, 3) := by decide +kernel
theorem dX7_sets_68 : decode cX7_sets 68 = .ok (.iload_n 2, 1) := by decide +kernel
theorem dX7_sets_69 : decode cX7_sets 69 = .ok (.putfield 44, 3) := by decide +kernel
theorem dX7_sets_72 : decode cX7_sets 72 = .ok (.aload_n 0, 1) := by decide +kernel
theorem dX7_sets_73 : decode cX7_sets 73 = .ok (.getfield 12, 3) := by decide +kernel
theorem dX7_sets_76 : decode cX7_sets 76 = .ok (.invokevirtual 23, 3) := by decide +kernel
theorem dX7_sets_79 : decode cX7_sets 79 = .ok (.iload_n 3, 1) := by decide +kernel
theorem dX7_sets_80 : decode cX7_sets 80 = .ok (.ireturn, 1) := by decide +kernel
theorem dX7_gate_0 : decode cX7_gate 0 = .ok (.aload_n 0, 1) := by decide +kernel
theorem dX7_gate_1 : decode cX7_gate 1 = .ok (.iload_n 1, 1) := by decide +kernel
theorem dX7_gate_2 : decode cX7_gate 2 = .ok (.invokevirtual 47, 3) := by decide +kernel
theorem dX7_gate_5 : decode cX7_gate 5 = .ok (.ifCond .eq 30, 3) := by decide +kernel
theorem dX7_gate_8 : decode cX7_gate 8 = .ok (.iload_n 2, 1) := by decide +kernel
theorem dX7_gate_9 : decode cX7_gate 9 = .ok (.ifCond .lt 26, 3) := by decide +kernel
theorem dX7_gate_12 : decode cX7_gate 12 = .ok (.iload_n 2, 1) := by decide +kernel
theorem dX7_gate_13 : decode cX7_gate 13 = .ok (.iconst 1, 1) := by decide +kernel
theorem dX7_gate_14 : decode cX7_gate 14 = .ok (.if_icmp .gt 21, 3) := by decide +kernel
theorem dX7_gate_17 : decode cX7_gate 17 = .ok (.iload_n 3, 1) := by decide +kernel
theorem dX7_gate_18 : decode cX7_gate 18 = .ok (.ifCond .lt 17, 3) := by decide +kernel
theorem dX7_gate_21 : decode cX7_gate 21 = .ok (.iload_n 3, 1) := by decide +kernel
theorem dX7_gate_22 : decode cX7_gate 22 = .ok (.iload_n 2, 1) := by decide +kernel
theorem dX7_gate_23 : decode cX7_gate 23 = .ok (.ifCond .ne 7, 3) := by decide +kernel
theorem dX7_gate_26 : decode cX7_gate 26 = .ok (.iconst 5, 1) := by decide +kernel
theorem dX7_gate_27 : decode cX7_gate 27 = .ok (.goto 5, 3) := by decide +kernel
theorem dX7_gate_30 : decode cX7_gate 30 = .ok (.bipush 40, 2) := by decide +kernel
theorem dX7_gate_32 : decode cX7_gate 32 = .ok (.if_icmp .le 8, 3) := by decide +kernel
theorem dX7_gate_35 : decode cX7_gate 35 = .ok (.aload_n 0, 1) := by decide +kernel
theorem dX7_gate_36 : decode cX7_gate 36 = .ok (.invokevirtual 30, 3) := by decide +kernel
theorem dX7_gate_39 : decode cX7_gate 39 = .ok (.ireturn, 1) := by decide +kernel
theorem dX7_gate_40 : decode cX7_gate 40 = .ok (.aload_n 0, 1) := by decide +kernel
theorem dX7_gate_41 : decode cX7_gate 41 = .ok (.getfield 12, 3) := by decide +kernel
theorem dX7_gate_44 : decode cX7_gate 44 = .ok (.getfield 51, 3) := by decide +kernel
theorem dX7_gate_47 : decode cX7_gate 47 = .ok (.iload_n 1, 1) := by decide +kernel
theorem dX7_gate_48 : decode cX7_gate 48 = .ok (.aaload, 1) := by decide +kernel
theorem dX7_gate_49 : decode cX7_gate 49 = .ok (.astore 4, 2) := by decide +kernel
theorem dX7_gate_51 : decode cX7_gate 51 = .ok (.iload_n 2, 1) := by decide +kernel
theorem dX7_gate_52 : decode cX7_gate 52 = .ok (.ifCond .ne 11, 3) := by decide +kernel
theorem dX7_gate_55 : decode cX7_gate 55 = .ok (.aload 4, 2) := by decide +kernel
theorem dX7_gate_57 : decode cX7_gate 57 = .ok (.getfield 55, 3) := by decide +kernel
theorem dX7_gate_60 : decode cX7_gate 60 = .ok (.goto 8, 3) := by decide +kernel
theorem dX7_gate_63 : decode cX7_gate 63 = .ok (.aload 4, 2) := by decide +kernel
theorem dX7_gate_65 : decode cX7_gate 65 = .ok (.getfield 60, 3) := by decide +kernel
theorem dX7_gate_68 : decode cX7_gate 68 = .ok (.istore 5, 2) := by decide +kernel
theorem dX7_gate_70 : decode cX7_gate 70 = .ok (.iload_n 2, 1) := by decide +kernel
theorem dX7_gate_71 : decode cX7_gate 71 = .ok (.ifCond .ne 12, 3) := by decide +kernel
theorem dX7_gate_74 : decode cX7_gate 74 = .ok (.aload 4, 2) := by decide +kernel
theorem dX7_gate_76 : decode cX7_gate 76 = .ok (.iload_n 3, 1) := by decide +kernel
theorem dX7_gate_77 : decode cX7_gate 77 = .ok (.putfield 55, 3) := by decide +kernel
theorem dX7_gate_80 : decode cX7_gate 80 = .ok (.goto 9, 3) := by decide +kernel
theorem dX7_gate_83 : decode cX7_gate 83 = .ok (.aload 4, 2) := by decide +kernel
theorem dX7_gate_85 : decode cX7_gate 85 = .ok (.iload_n 3, 1) := by decide +kernel
theorem dX7_gate_86 : decode cX7_gate 86 = .ok (.putfield 60, 3) := by decide +kernel
theorem dX7_gate_89 : decode cX7_gate 89 = .ok (.iload 5, 2) := by decide +kernel
theorem dX7_gate_91 : decode cX7_gate 91 = .ok (.ireturn, 1) := by decide +kernel
theorem dX7_gain_0 : decode cX7_gain 0 = .ok (.aload_n 0, 1) := by decide +kernel
theorem dX7_gain_1 : decode cX7_gain 1 = .ok (.iload_n 1, 1) := by decide +kernel
theorem dX7_gain_2 : decode cX7_gain 2 = .ok (.invokevirtual 63, 3) := by decide +kernel
theorem dX7_gain_5 : decode cX7_gain 5 = .ok (.ifCond .eq 21, 3) := by decide +kernel
theorem dX7_gain_8 : decode cX7_gain 8 = .ok (.aload_n 0, 1) := by decide +kernel
theorem dX7_gain_9 : decode cX7_gain 9 = .ok (.iload_n 2, 1) := by decide +kernel
theorem dX7_gain_10 : decode cX7_gain 10 = .ok (.invokevirtual 47, 3) := by decide +kernel
theorem dX7_gain_13 : decode cX7_gain 13 = .ok (.ifCond .eq 13, 3) := by decide +kernel
theorem dX7_gain_16 : decode cX7_gain 16 = .ok (.iload_n 3, 1) := by decide +kernel
theorem dX7_gain_17 : decode cX7_gain 17 = .ok (.ifCond .lt 9, 3) := by decide +kernel
theorem dX7_gain_20 : decode cX7_gain 20 = .ok (.iload_n 3, 1) := by decide +kernel
theorem dX7_gain_21 : decode cX7_gain 21 = .ok (.bipush 60, 2) := by decide +kernel
theorem dX7_gain_23 : decode cX7_gain 23 = .ok (.if_icmp .le 8, 3) := by decide +kernel
theorem dX7_gain_26 : decode cX7_gain 26 = .ok (.aload_n 0, 1) := by decide +kernel
theorem dX7_gain_27 : decode cX7_gain 27 = .ok (.invokevirtual 30, 3) := by decide +kernel
theorem dX7_gain_30 : decode cX7_gain 30 = .ok (.ireturn, 1) := by decide +kernel
theorem dX7_gain_31 : decode cX7_gain 31 = .ok (.aload_n 0, 1) := by decide +kernel
theorem dX7_gain_32 : decode cX7_gain 32 = .ok (.getfield 12, 3) := by decide +kernel
theorem dX7_gain_35 : decode cX7_gain 35 = .ok (.getfield 66, 3) := by decide +kernel
theorem dX7_gain_38 : decode cX7_gain 38 = .ok (.iload_n 1, 1) := by decide +kernel
theorem dX7_gain_39 : decode cX7_gain 39 = .ok (.aaload, 1) := by decide +kernel
theorem dX7_gain_40 : decode cX7_gain 40 = .ok (.iload_n 2, 1) := by decide +kernel
theorem dX7_gain_41 : decode cX7_gain 41 = .ok (.iaload, 1) := by decide +kernel
theorem dX7_gain_42 : decode cX7_gain 42 = .ok (.istore 4, 2) := by decide +kernel
theorem dX7_gain_44 : decode cX7_gain 44 = .ok (.aload_n 0, 1) := by decide +kernel
theorem dX7_gain_45 : decode cX7_gain 45 = .ok (.getfield 12, 3) := by decide +kernel
theorem dX7_gain_48 : decode cX7_gain 48 = .ok (.getfield 66, 3) := by decide +kernel
theorem dX7_gain_51 : decode cX7_gain 51 = .ok (.iload_n 1, 1) := by decide +kernel
theorem dX7_gain_52 : decode cX7_gain 52 = .ok (.aaload, 1) := by decide +kernel
theorem dX7_gain_53 : decode cX7_gain 53 = .ok (.iload_n 2, 1) := by decide +kernel
theorem dX7_gain_54 : decode cX7_gain 54 = .ok (.iload_n 3, 1) := by decide +kernel
theorem dX7_gain_55 : decode cX7_gain 55 = .ok (.iastore, 1) := by decide +kernel
theorem dX7_gain_56 : decode cX7_gain 56 = .ok (.iload 4, 2) := by decide +kernel
theorem dX7_gain_58 : decode cX7_gain 58 = .ok (.ireturn, 1) := by decide +kernel
theorem dX7_draw_0 : decode cX7_draw 0 = .ok (.iload_n 1, 1) := by decide +kernel
theorem dX7_draw_1 : decode cX7_draw 1 = .ok (.ifCond .lt 9, 3) := by decide +kernel
theorem dX7_draw_4 : decode cX7_draw 4 = .ok (.iload_n 1, 1) := by decide +kernel
theorem dX7_draw_5 : decode cX7_draw 5 = .ok (.ldc 70, 2) := by decide +kernel
theorem dX7_draw_7 : decode cX7_draw 7 = .ok (.if_icmp .le 8, 3) := by decide +kernel
theorem dX7_draw_10 : decode cX7_draw 10 = .ok (.aload_n 0, 1) := by decide +kernel
theorem dX7_draw_11 : decode cX7_draw 11 = .ok (.invokevirtual 30, 3) := by decide +kernel
theorem dX7_draw_14 : decode cX7_draw 14 = .ok (.ireturn, 1) := by decide +kernel
theorem dX7_draw_15 : decode cX7_draw 15 = .ok (.aload_n 0, 1) := by decide +kernel
theorem dX7_draw_16 : decode cX7_draw 16 = .ok (.getfield 12, 3) := by decide +kernel
theorem dX7_draw_19 : decode cX7_draw 19 = .ok (.iload_n 1, 1) := by decide +kernel
theorem dX7_draw_20 : decode cX7_draw 20 = .ok (.invokevirtual 71, 3) := by decide +kernel
theorem dX7_draw_23 : decode cX7_draw 23 = .ok (.ireturn, 1) := by decide +kernel
theorem dX7_sender_0 : decode cX7_sender 0 = .ok (.aload_n 0, 1) := by decide +kernel
theorem dX7_sender_1 : decode cX7_sender 1 = .ok (.iload_n 1, 1) := by decide +kernel
theorem dX7_sender_2 : decode cX7_sender 2 = .ok (.invokevirtual 63, 3) := by decide +kernel
theorem dX7_sender_5 : decode cX7_sender 5 = .ok (.ifCond .eq 24, 3) := by decide +kernel
theorem dX7_sender_8 : decode cX7_sender 8 = .ok (.iload_n 2, 1) := by decide +kernel
theorem dX7_sender_9 : decode cX7_sender 9 = .ok (.ifCond .lt 20, 3) := by decide +kernel
theorem dX7_sender_12 : decode cX7_sender 12 = .ok (.iload_n 2, 1) := by decide +kernel
theorem dX7_sender_13 : decode cX7_sender 13 = .ok (.iconst 3, 1) := by decide +kernel
theorem dX7_sender_14 : decode cX7_sender 14 = .ok (.if_icmp .gt 15, 3) := by decide +kernel
theorem dX7_sender_17 : decode cX7_sender 17 = .ok (.iload_n 3, 1) := by decide +kernel
theorem dX7_sender_18 : decode cX7_sender 18 = .ok (.ifCond .lt 11, 3) := by decide +kernel
theorem dX7_sender_21 : decode cX7_sender 21 = .ok (.iload_n 3, 1) := by decide +kernel
theorem dX7_sender_22 : decode cX7_sender 22 = .ok (.iload_n 2, 1) := by decide +kernel
theorem dX7_sender_23 : decode cX7_sender 23 = .ok (.invokestatic 74, 3) := by decide +kernel
theorem dX7_sender_26 : decode cX7_sender 26 = .ok (.if_icmp .le 8, 3) := by decide +kernel
theorem dX7_sender_29 : decode cX7_sender 29 = .ok (.aload_n 0, 1) := by decide +kernel
theorem dX7_sender_30 : decode cX7_sender 30 = .ok (.invokevirtual 30, 3) := by decide +kernel
theorem dX7_sender_33 : decode cX7_sender 33 = .ok (.ireturn, 1) := by decide +kernel
theorem dX7_sender_34 : decode cX7_sender 34 = .ok (.aload_n 0, 1) := by decide +kernel
theorem dX7_sender_35 : decode cX7_sender 35 = .ok (.getfield 12, 3) := by decide +kernel
theorem dX7_sender_38 : decode cX7_sender 38 = .ok (.getfield 77, 3) := by decide +kernel
theorem dX7_sender_41 : decode cX7_sender 41 = .ok (.iload_n 1, 1) := by decide +kernel
theorem dX7_sender_42 : decode cX7_sender 42 = .ok (.aaload, 1) := by decide +kernel
theorem dX7_sender_43 : decode cX7_sender 43 = .ok (.iload_n 2, 1) := by decide +kernel
theorem dX7_sender_44 : decode cX7_sender 44 = .ok (.iload_n 3, 1) := by decide +kernel
theorem dX7_sender_45 : decode cX7_sender 45 = .ok (.invokevirtual 81, 3) := by decide +kernel
theorem dX7_sender_48 : decode cX7_sender 48 = .ok (.ireturn, 1) := by decide +kernel
theorem dX7_sends_0 : decode cX7_sends 0 = .ok (.aload_n 0, 1) := by decide +kernel
theorem dX7_sends_1 : decode cX7_sends 1 = .ok (.iload_n 1, 1) := by decide +kernel
theorem dX7_sends_2 : decode cX7_sends 2 = .ok (.invokevirtual 63, 3) := by decide +kernel
theorem dX7_sends_5 : decode cX7_sends 5 = .ok (.ifCond .ne 8, 3) := by decide +kernel
theorem dX7_sends_8 : decode cX7_sends 8 = .ok (.aload_n 0, 1) := by decide +kernel
theorem dX7_sends_9 : decode cX7_sends 9 = .ok (.invokevirtual 30, 3) := by decide +kernel
theorem dX7_sends_12 : decode cX7_sends 12 = .ok (.ireturn, 1) := by decide +kernel
theorem dX7_sends_13 : decode cX7_sends 13 = .ok (.aload_n 0, 1) := by decide +kernel
theorem dX7_sends_14 : decode cX7_sends 14 = .ok (.getfield 12, 3) := by decide +kernel
theorem dX7_sends_17 : decode cX7_sends 17 = .ok (.invokevirtual 87, 3) := by decide +kernel
theorem dX7_sends_20 : decode cX7_sends 20 = .ok (.ifCond .eq 8, 3) := by decide +kernel
theorem dX7_sends_23 : decode cX7_sends 23 = .ok (.aload_n 0, 1) := by decide +kernel
theorem dX7_sends_24 : decode cX7_sends 24 = .ok (.invokevirtual 91, 3) := by decide +kernel
theorem dX7_sends_27 : decode cX7_sends 27 = .ok (.ireturn, 1) := by decide +kernel
theorem dX7_sends_28 : decode cX7_sends 28 = .ok (.aload_n 0, 1) := by decide +kernel
theorem dX7_sends_29 : decode cX7_sends 29 = .ok (.getfield 12, 3) := by decide +kernel
theorem dX7_sends_32 : decode cX7_sends 32 = .ok (.iload_n 1, 1) := by decide +kernel
theorem dX7_sends_33 : decode cX7_sends 33 = .ok (.invokevirtual 94, 3) := by decide +kernel
theorem dX7_sends_36 : decode cX7_sends 36 = .ok (.ireturn, 1) := by decide +kernel
theorem dX7_again_0 : decode cX7_again 0 = .ok (.aload_n 0, 1) := by decide +kernel
theorem dX7_again_1 : decode cX7_again 1 = .ok (.iload_n 1, 1) := by decide +kernel
theorem dX7_again_2 : decode cX7_again 2 = .ok (.invokevirtual 63, 3) := by decide +kernel
theorem dX7_again_5 : decode cX7_again 5 = .ok (.ifCond .ne 8, 3) := by decide +kernel
theorem dX7_again_8 : decode cX7_again 8 = .ok (.aload_n 0, 1) := by decide +kernel
theorem dX7_again_9 : decode cX7_again 9 = .ok (.invokevirtual 30, 3) := by decide +kernel
theorem dX7_again_12 : decode cX7_again 12 = .ok (.ireturn, 1) := by decide +kernel
theorem dX7_again_13 : decode cX7_again 13 = .ok (.aload_n 0, 1) := by decide +kernel
theorem dX7_again_14 : decode cX7_again 14 = .ok (.getfield 12, 3) := by decide +kernel
theorem dX7_again_17 : decode cX7_again 17 = .ok (.getfield 77, 3) := by decide +kernel
theorem dX7_again_20 : decode cX7_again 20 = .ok (.iload_n 1, 1) := by decide +kernel
theorem dX7_again_21 : decode cX7_again 21 = .ok (.aaload, 1) := by decide +kernel
theorem dX7_again_22 : decode cX7_again 22 = .ok (.invokevirtual 97, 3) := by decide +kernel
theorem dX7_again_25 : decode cX7_again 25 = .ok (.ifCond .ne 8, 3) := by decide +kernel
theorem dX7_again_28 : decode cX7_again 28 = .ok (.aload_n 0, 1) := by decide +kernel
theorem dX7_again_29 : decode cX7_again 29 = .ok (.invokevirtual 100, 3) := by decide +kernel
theorem dX7_again_32 : decode cX7_again 32 = .ok (.ireturn, 1) := by decide +kernel
theorem dX7_again_33 : decode cX7_again 33 = .ok (.aload_n 0, 1) := by decide +kernel
theorem dX7_again_34 : decode cX7_again 34 = .ok (.getfield 12, 3) := by decide +kernel
theorem dX7_again_37 : decode cX7_again 37 = .ok (.invokevirtual 87, 3) := by decide +kernel
theorem dX7_again_40 : decode cX7_again 40 = .ok (.ifCond .eq 8, 3) := by decide +kernel
theorem dX7_again_43 : decode cX7_again 43 = .ok (.aload_n 0, 1) := by decide +kernel
theorem dX7_again_44 : decode cX7_again 44 = .ok (.invokevirtual 91, 3) := by decide +kernel
theorem dX7_again_47 : decode cX7_again 47 = .ok (.ireturn, 1) := by decide +kernel
theorem dX7_again_48 : decode cX7_again 48 = .ok (.aload_n 0, 1) := by decide +kernel
theorem dX7_again_49 : decode cX7_again 49 = .ok (.getfield 12, 3) := by decide +kernel
theorem dX7_again_52 : decode cX7_again 52 = .ok (.iload_n 1, 1) := by decide +kernel
theorem dX7_again_53 : decode cX7_again 53 = .ok (.invokevirtual 103, 3) := by decide +kernel
theorem dX7_again_56 : decode cX7_again 56 = .ok (.ireturn, 1) := by decide +kernel
theorem dX7_ticks_0 : decode cX7_ticks 0 = .ok (.iload_n 1, 1) := by decide +kernel
theorem dX7_ticks_1 : decode cX7_ticks 1 = .ok (.iconst 1, 1) := by decide +kernel
theorem dX7_ticks_2 : decode cX7_ticks 2 = .ok (.if_icmp .lt 9, 3) := by decide +kernel
theorem dX7_ticks_5 : decode cX7_ticks 5 = .ok (.iload_n 1, 1) := by decide +kernel
theorem dX7_ticks_6 : decode cX7_ticks 6 = .ok (.bipush 99, 2) := by decide +kernel
theorem dX7_ticks_8 : decode cX7_ticks 8 = .ok (.if_icmp .le 8, 3) := by decide +kernel
theorem dX7_ticks_11 : decode cX7_ticks 11 = .ok (.aload_n 0, 1) := by decide +kernel
theorem dX7_ticks_12 : decode cX7_ticks 12 = .ok (.invokevirtual 30, 3) := by decide +kernel
theorem dX7_ticks_15 : decode cX7_ticks 15 = .ok (.ireturn, 1) := by decide +kernel
theorem dX7_ticks_16 : decode cX7_ticks 16 = .ok (.aload_n 0, 1) := by decide +kernel
theorem dX7_ticks_17 : decode cX7_ticks 17 = .ok (.getfield 12, 3) := by decide +kernel
theorem dX7_ticks_20 : decode cX7_ticks 20 = .ok (.iload_n 1, 1) := by decide +kernel
theorem dX7_ticks_21 : decode cX7_ticks 21 = .ok (.invokevirtual 106, 3) := by decide +kernel
theorem dX7_ticks_24 : decode cX7_ticks 24 = .ok (.ireturn, 1) := by decide +kernel
theorem dX7_renews_0 : decode cX7_renews 0 = .ok (.aload_n 0, 1) := by decide +kernel
theorem dX7_renews_1 : decode cX7_renews 1 = .ok (.iload_n 1, 1) := by decide +kernel
theorem dX7_renews_2 : decode cX7_renews 2 = .ok (.invokevirtual 63, 3) := by decide +kernel
theorem dX7_renews_5 : decode cX7_renews 5 = .ok (.ifCond .ne 8, 3) := by decide +kernel
theorem dX7_renews_8 : decode cX7_renews 8 = .ok (.aload_n 0, 1) := by decide +kernel
theorem dX7_renews_9 : decode cX7_renews 9 = .ok (.invokevirtual 30, 3) := by decide +kernel
theorem dX7_renews_12 : decode cX7_renews 12 = .ok (.ireturn, 1) := by decide +kernel
theorem dX7_renews_13 : decode cX7_renews 13 = .ok (.aload_n 0, 1) := by decide +kernel
theorem dX7_renews_14 : decode cX7_renews 14 = .ok (.getfield 12, 3) := by decide +kernel
theorem dX7_renews_17 : decode cX7_renews 17 = .ok (.getfield 77, 3) := by decide +kernel
theorem dX7_renews_20 : decode cX7_renews 20 = .ok (.iload_n 1, 1) := by decide +kernel
theorem dX7_renews_21 : decode cX7_renews 21 = .ok (.aaload, 1) := by decide +kernel
theorem dX7_renews_22 : decode cX7_renews 22 = .ok (.getfield 109, 3) := by decide +kernel
theorem dX7_renews_25 : decode cX7_renews 25 = .ok (.istore_n 2, 1) := by decide +kernel
theorem dX7_renews_26 : decode cX7_renews 26 = .ok (.aload_n 0, 1) := by decide +kernel
theorem dX7_renews_27 : decode cX7_renews 27 = .ok (.getfield 12, 3) := by decide +kernel
theorem dX7_renews_30 : decode cX7_renews 30 = .ok (.getfield 77, 3) := by decide +kernel
theorem dX7_renews_33 : decode cX7_renews 33 = .ok (.iload_n 1, 1) := by decide +kernel
theorem dX7_renews_34 : decode cX7_renews 34 = .ok (.aaload, 1) := by decide +kernel
theorem dX7_renews_35 : decode cX7_renews 35 = .ok (.invokevirtual 112, 3) := by decide +kernel
theorem dX7_renews_38 : decode cX7_renews 38 = .ok (.iload_n 2, 1) := by decide +kernel
theorem dX7_renews_39 : decode cX7_renews 39 = .ok (.ireturn, 1) := by decide +kernel
theorem dX7_of_0 : decode cX7_of 0 = .ok (.aload_n 0, 1) := by decide +kernel
theorem dX7_of_1 : decode cX7_of 1 = .ok (.iload_n 1, 1) := by decide +kernel
theorem dX7_of_2 : decode cX7_of 2 = .ok (.invokevirtual 63, 3) := by decide +kernel
theorem dX7_of_5 : decode cX7_of 5 = .ok (.ifCond .eq 13, 3) := by decide +kernel
theorem dX7_of_8 : decode cX7_of 8 = .ok (.iload_n 2, 1) := by decide +kernel
theorem dX7_of_9 : decode cX7_of 9 = .ok (.ifCond .lt 9, 3) := by decide +kernel
theorem dX7_of_12 : decode cX7_of 12 = .ok (.iload_n 2, 1) := by decide +kernel
theorem dX7_of_13 : decode cX7_of 13 = .ok (.bipush 7, 2) := by decide +kernel
theorem dX7_of_15 : decode cX7_of 15 = .ok (.if_icmp .le 8, 3) := by decide +kernel
theorem dX7_of_18 : decode cX7_of 18 = .ok (.aload_n 0, 1) := by decide +kernel
theorem dX7_of_19 : decode cX7_of 19 = .ok (.invokevirtual 30, 3) := by decide +kernel
theorem dX7_of_22 : decode cX7_of 22 = .ok (.ireturn, 1) := by decide +kernel
theorem dX7_of_23 : decode cX7_of 23 = .ok (.aload_n 0, 1) := by decide +kernel
theorem dX7_of_24 : decode cX7_of 24 = .ok (.getfield 12, 3) := by decide +kernel
theorem dX7_of_27 : decode cX7_of 27 = .ok (.getfield 77, 3) := by decide +kernel
theorem dX7_of_30 : decode cX7_of 30 = .ok (.iload_n 1, 1) := by decide +kernel
theorem dX7_of_31 : decode cX7_of 31 = .ok (.aaload, 1) := by decide +kernel
theorem dX7_of_32 : decode cX7_of 32 = .ok (.iload_n 2, 1) := by decide +kernel
theorem dX7_of_33 : decode cX7_of 33 = .ok (.invokevirtual 115, 3) := by decide +kernel
theorem dX7_of_36 : decode cX7_of 36 = .ok (.ireturn, 1) := by decide +kernel
theorem dX7_margin_0 : decode cX7_margin 0 = .ok (.aload_n 0, 1) := by decide +kernel
theorem dX7_margin_1 : decode cX7_margin 1 = .ok (.iload_n 1, 1) := by decide +kernel
theorem dX7_margin_2 : decode cX7_margin 2 = .ok (.invokevirtual 63, 3) := by decide +kernel
theorem dX7_margin_5 : decode cX7_margin 5 = .ok (.ifCond .eq 7, 3) := by decide +kernel
theorem dX7_margin_8 : decode cX7_margin 8 = .ok (.iload_n 2, 1) := by decide +kernel
theorem dX7_margin_9 : decode cX7_margin 9 = .ok (.ifCond .ge 8, 3) := by decide +kernel
theorem dX7_margin_12 : decode cX7_margin 12 = .ok (.aload_n 0, 1) := by decide +kernel
theorem dX7_margin_13 : decode cX7_margin 13 = .ok (.invokevirtual 30, 3) := by decide +kernel
theorem dX7_margin_16 : decode cX7_margin 16 = .ok (.ireturn, 1) := by decide +kernel
theorem dX7_margin_17 : decode cX7_margin 17 = .ok (.aload_n 0, 1) := by decide +kernel
theorem dX7_margin_18 : decode cX7_margin 18 = .ok (.getfield 12, 3) := by decide +kernel
theorem dX7_margin_21 : decode cX7_margin 21 = .ok (.getfield 77, 3) := by decide +kernel
theorem dX7_margin_24 : decode cX7_margin 24 = .ok (.iload_n 1, 1) := by decide +kernel
theorem dX7_margin_25 : decode cX7_margin 25 = .ok (.aaload, 1) := by decide +kernel
theorem dX7_margin_26 : decode cX7_margin 26 = .ok (.astore_n 3, 1) := by decide +kernel
theorem dX7_margin_27 : decode cX7_margin 27 = .ok (.iload_n 2, 1) := by decide +kernel
theorem dX7_margin_28 : decode cX7_margin 28 = .ok (.aload_n 3, 1) := by decide +kernel
theorem dX7_margin_29 : decode cX7_margin 29 = .ok (.getfield 118, 3) := by decide +kernel
theorem dX7_margin_32 : decode cX7_margin 32 = .ok (.if_icmp .ge 17, 3) := by decide +kernel
theorem dX7_margin_35 : decode cX7_margin 35 = .ok (.iload_n 2, 1) := by decide +kernel
theorem dX7_margin_36 : decode cX7_margin 36 = .ok (.iconst 4, 1) := by decide +kernel
theorem dX7_margin_37 : decode cX7_margin 37 = .ok (.if_icmp .ge 12, 3) := by decide +kernel
theorem dX7_margin_40 : decode cX7_margin 40 = .ok (.aload_n 3, 1) := by decide +kernel
theorem dX7_margin_41 : decode cX7_margin 41 = .ok (.getfield 121, 3) := by decide +kernel
theorem dX7_margin_44 : decode cX7_margin 44 = .ok (.iload_n 2, 1) := by decide +kernel
theorem dX7_margin_45 : decode cX7_margin 45 = .ok (.iaload, 1) := by decide +kernel
theorem dX7_margin_46 : decode cX7_margin 46 = .ok (.goto 6, 3) := by decide +kernel
theorem dX7_margin_49 : decode cX7_margin 49 = .ok (.sipush (-1000), 3) := by decide +kernel
theorem dX7_margin_52 : decode cX7_margin 52 = .ok (.ireturn, 1) := by decide +kernel
theorem dX7_hears_0 : decode cX7_hears 0 = .ok (.aload_n 0, 1) := by decide +kernel
theorem dX7_hears_1 : decode cX7_hears 1 = .ok (.iload_n 1, 1) := by decide +kernel
theorem dX7_hears_2 : decode cX7_hears 2 = .ok (.invokevirtual 63, 3) := by decide +kernel
theorem dX7_hears_5 : decode cX7_hears 5 = .ok (.ifCond .eq 11, 3) := by decide +kernel
theorem dX7_hears_8 : decode cX7_hears 8 = .ok (.aload_n 0, 1) := by decide +kernel
theorem dX7_hears_9 : decode cX7_hears 9 = .ok (.iload_n 2, 1) := by decide +kernel
theorem dX7_hears_10 : decode cX7_hears 10 = .ok (.invokevirtual 47, 3) := by decide +kernel
theorem dX7_hears_13 : decode cX7_hears 13 = .ok (.ifCond .ne 17, 3) := by decide +kernel
theorem dX7_hears_16 : decode cX7_hears 16 = .ok (.aload_n 0, 1) := by decide +kernel
theorem dX7_hears_17 : decode cX7_hears 17 = .ok (.dup, 1) := by decide +kernel
theorem dX7_hears_18 : decode cX7_hears 18 = .ok (.getfield 125, 3) := by decide +kernel
theorem dX7_hears_21 : decode cX7_hears 21 = .ok (.iconst 1, 1) := by decide +kernel
theorem dX7_hears_22 : decode cX7_hears 22 = .ok (.iadd, 1) := by decide +kernel
theorem dX7_hears_23 : decode cX7_hears 23 = .ok (.putfield 125, 3) := by decide +kernel
theorem dX7_hears_26 : decode cX7_hears 26 = .ok (.sipush (-2000), 3) := by decide +kernel
theorem dX7_hears_29 : decode cX7_hears 29 = .ok (.ireturn, 1) := by decide +kernel
theorem dX7_hears_30 : decode cX7_hears 30 = .ok (.aload_n 0, 1) := by decide +kernel
theorem dX7_hears_31 : decode cX7_hears 31 = .ok (.getfield 12, 3) := by decide +kernel
theorem dX7_hears_34 : decode cX7_hears 34 = .ok (.iload_n 1, 1) := by decide +kernel
theorem dX7_hears_35 : decode cX7_hears 35 = .ok (.iload_n 2, 1) := by decide +kernel
theorem dX7_hears_36 : decode cX7_hears 36 = .ok (.invokevirtual 128, 3) := by decide +kernel
theorem dX7_hears_39 : decode cX7_hears 39 = .ok (.ireturn, 1) := by decide +kernel
theorem dX7_at_0 : decode cX7_at 0 = .ok (.aload_n 0, 1) := by decide +kernel
theorem dX7_at_1 : decode cX7_at 1 = .ok (.iload_n 1, 1) := by decide +kernel
theorem dX7_at_2 : decode cX7_at 2 = .ok (.invokevirtual 47, 3) := by decide +kernel
theorem dX7_at_5 : decode cX7_at 5 = .ok (.ifCond .eq 12, 3) := by decide +kernel
theorem dX7_at_8 : decode cX7_at 8 = .ok (.iload_n 2, 1) := by decide +kernel
theorem dX7_at_9 : decode cX7_at 9 = .ok (.ifCond .lt 8, 3) := by decide +kernel
theorem dX7_at_12 : decode cX7_at 12 = .ok (.iload_n 2, 1) := by decide +kernel
theorem dX7_at_13 : decode cX7_at 13 = .ok (.iconst 3, 1) := by decide +kernel
theorem dX7_at_14 : decode cX7_at 14 = .ok (.if_icmp .le 8, 3) := by decide +kernel
theorem dX7_at_17 : decode cX7_at 17 = .ok (.aload_n 0, 1) := by decide +kernel
theorem dX7_at_18 : decode cX7_at 18 = .ok (.invokevirtual 30, 3) := by decide +kernel
theorem dX7_at_21 : decode cX7_at 21 = .ok (.ireturn, 1) := by decide +kernel
theorem dX7_at_22 : decode cX7_at 22 = .ok (.aload_n 0, 1) := by decide +kernel
theorem dX7_at_23 : decode cX7_at 23 = .ok (.getfield 12, 3) := by decide +kernel
theorem dX7_at_26 : decode cX7_at 26 = .ok (.getfield 51, 3) := by decide +kernel
theorem dX7_at_29 : decode cX7_at 29 = .ok (.iload_n 1, 1) := by decide +kernel
theorem dX7_at_30 : decode cX7_at 30 = .ok (.aaload, 1) := by decide +kernel
theorem dX7_at_31 : decode cX7_at 31 = .ok (.iload_n 2, 1) := by decide +kernel
theorem dX7_at_32 : decode cX7_at 32 = .ok (.invokevirtual 131, 3) := by decide +kernel
theorem dX7_at_35 : decode cX7_at 35 = .ok (.ireturn, 1) := by decide +kernel
theorem dX7_all_0 : decode cX7_all 0 = .ok (.iload_n 1, 1) := by decide +kernel
theorem dX7_all_1 : decode cX7_all 1 = .ok (.ifCond .lt 9, 3) := by decide +kernel
theorem dX7_all_4 : decode cX7_all 4 = .ok (.iload_n 1, 1) := by decide +kernel
theorem dX7_all_5 : decode cX7_all 5 = .ok (.bipush 8, 2) := by decide +kernel
theorem dX7_all_7 : decode cX7_all 7 = .ok (.if_icmp .le 8, 3) := by decide +kernel
theorem dX7_all_10 : decode cX7_all 10 = .ok (.aload_n 0, 1) := by decide +kernel
theorem dX7_all_11 : decode cX7_all 11 = .ok (.invokevirtual 30, 3) := by decide +kernel
theorem dX7_all_14 : decode cX7_all 14 = .ok (.ireturn, 1) := by decide +kernel
theorem dX7_all_15 : decode cX7_all 15 = .ok (.aload_n 0, 1) := by decide +kernel
theorem dX7_all_16 : decode cX7_all 16 = .ok (.getfield 12, 3) := by decide +kernel
theorem dX7_all_19 : decode cX7_all 19 = .ok (.iload_n 1, 1) := by decide +kernel
theorem dX7_all_20 : decode cX7_all 20 = .ok (.invokevirtual 132, 3) := by decide +kernel
theorem dX7_all_23 : decode cX7_all 23 = .ok (.ireturn, 1) := by decide +kernel
theorem dX7_window_0 : decode cX7_window 0 = .ok (.iload_n 1, 1) := by decide +kernel
theorem dX7_window_1 : decode cX7_window 1 = .ok (.ifCond .lt 12, 3) := by decide +kernel
theorem dX7_window_4 : decode cX7_window 4 = .ok (.iload_n 2, 1) := by decide +kernel
theorem dX7_window_5 : decode cX7_window 5 = .ok (.ifCond .lt 8, 3) := by decide +kernel
theorem dX7_window_8 : decode cX7_window 8 = .ok (.iload_n 2, 1) := by decide +kernel
theorem dX7_window_9 : decode cX7_window 9 = .ok (.iconst 3, 1) := by decide +kernel
theorem dX7_window_10 : decode cX7_window 10 = .ok (.if_icmp .le 8, 3) := by decide +kernel
theorem dX7_window_13 : decode cX7_window 13 = .ok (.aload_n 0, 1) := by decide +kernel
theorem dX7_window_14 : decode cX7_window 14 = .ok (.invokevirtual 30, 3) := by decide +kernel
theorem dX7_window_17 : decode cX7_window 17 = .ok (.ireturn, 1) := by decide +kernel
theorem dX7_window_18 : decode cX7_window 18 = .ok (.iload_n 1, 1) := by decide +kernel
theorem dX7_window_19 : decode cX7_window 19 = .ok (.aload_n 0, 1) := by decide +kernel
theorem dX7_window_20 : decode cX7_window 20 = .ok (.getfield 12, 3) := by decide +kernel
theorem dX7_window_23 : decode cX7_window 23 = .ok (.getfield 133, 3) := by decide +kernel
theorem dX7_window_26 : decode cX7_window 26 = .ok (.getfield 137, 3) := by decide +kernel
theorem dX7_window_29 : decode cX7_window 29 = .ok (.if_icmp .lt 5, 3) := by decide +kernel
theorem dX7_window_32 : decode cX7_window 32 = .ok (.iconst (-1), 1) := by decide +kernel
theorem dX7_window_33 : decode cX7_window 33 = .ok (.ireturn, 1) := by decide +kernel
theorem dX7_window_34 : decode cX7_window 34 = .ok (.iload_n 2, 1) := by decide +kernel
theorem dX7_window_35 : decode cX7_window 35 = .ok (.iconst 3, 1) := by decide +kernel
theorem dX7_window_36 : decode cX7_window 36 = .ok (.if_icmp .ne 32, 3) := by decide +kernel
theorem dX7_window_39 : decode cX7_window 39 = .ok (.aload_n 0, 1) := by decide +kernel
theorem dX7_window_40 : decode cX7_window 40 = .ok (.getfield 12, 3) := by decide +kernel
theorem dX7_window_43 : decode cX7_window 43 = .ok (.getfield 133, 3) := by decide +kernel
theorem dX7_window_46 : decode cX7_window 46 = .ok (.getfield 142, 3) := by decide +kernel
theorem dX7_window_49 : decode cX7_window 49 = .ok (.iload_n 1, 1) := by decide +kernel
theorem dX7_window_50 : decode cX7_window 50 = .ok (.iaload, 1) := by decide +kernel
theorem dX7_window_51 : decode cX7_window 51 = .ok (.aload_n 0, 1) := by decide +kernel
theorem dX7_window_52 : decode cX7_window 52 = .ok (.getfield 12, 3) := by decide +kernel
theorem dX7_window_55 : decode cX7_window 55 = .ok (.getfield 44, 3) := by decide +kernel
theorem dX7_window_58 : decode cX7_window 58 = .ok (.iadd, 1) := by decide +kernel
theorem dX7_window_59 : decode cX7_window 59 = .ok (.aload_n 0, 1) := by decide +kernel
theorem dX7_window_60 : decode cX7_window 60 = .ok (.getfield 12, 3) := by decide +kernel
theorem dX7_window_63 : decode cX7_window 63 = .ok (.getfield 145, 3) := by decide +kernel
theorem dX7_window_66 : decode cX7_window 66 = .ok (.isub, 1) := by decide +kernel
theorem dX7_window_67 : decode cX7_window 67 = .ok (.ireturn, 1) := by decide +kernel
theorem dX7_window_68 : decode cX7_window 68 = .ok (.aload_n 0, 1) := by decide +kernel
theorem dX7_window_69 : decode cX7_window 69 = .ok (.getfield 12, 3) := by decide +kernel
theorem dX7_window_72 : decode cX7_window 72 = .ok (.getfield 133, 3) := by decide +kernel
theorem dX7_window_75 : decode cX7_window 75 = .ok (.iload_n 1, 1) := by decide +kernel
theorem dX7_window_76 : decode cX7_window 76 = .ok (.iload_n 2, 1) := by decide +kernel
theorem dX7_window_77 : decode cX7_window 77 = .ok (.invokevirtual 148, 3) := by decide +kernel
theorem dX7_window_80 : decode cX7_window 80 = .ok (.ireturn, 1) := by decide +kernel
theorem dX7_copy_0 : decode cX7_copy 0 = .ok (.iload_n 1, 1) := by decide +kernel
theorem dX7_copy_1 : decode cX7_copy 1 = .ok (.ifCond .lt 12, 3) := by decide +kernel
theorem dX7_copy_4 : decode cX7_copy 4 = .ok (.iload_n 2, 1) := by decide +kernel
theorem dX7_copy_5 : decode cX7_copy 5 = .ok (.ifCond .lt 8, 3) := by decide +kernel
theorem dX7_copy_8 : decode cX7_copy 8 = .ok (.iload_n 2, 1) := by decide +kernel
theorem dX7_copy_9 : decode cX7_copy 9 = .ok (.iconst 2, 1) := by decide +kernel
theorem dX7_copy_10 : decode cX7_copy 10 = .ok (.if_icmp .le 8, 3) := by decide +kernel
theorem dX7_copy_13 : decode cX7_copy 13 = .ok (.aload_n 0, 1) := by decide +kernel
theorem dX7_copy_14 : decode cX7_copy 14 = .ok (.invokevirtual 30, 3) := by decide +kernel
theorem dX7_copy_17 : decode cX7_copy 17 = .ok (.ireturn, 1) := by decide +kernel
theorem dX7_copy_18 : decode cX7_copy 18 = .ok (.iload_n 1, 1) := by decide +kernel
theorem dX7_copy_19 : decode cX7_copy 19 = .ok (.aload_n 0, 1) := by decide +kernel
theorem dX7_copy_20 : decode cX7_copy 20 = .ok (.getfield 12, 3) := by decide +kernel
theorem dX7_copy_23 : decode cX7_copy 23 = .ok (.getfield 150, 3) := by decide +kernel
theorem dX7_copy_26 : decode cX7_copy 26 = .ok (.getfield 154, 3) := by decide +kernel
theorem dX7_copy_29 : decode cX7_copy 29 = .ok (.if_icmp .lt 5, 3) := by decide +kernel
theorem dX7_copy_32 : decode cX7_copy 32 = .ok (.iconst (-1), 1) := by decide +kernel
theorem dX7_copy_33 : decode cX7_copy 33 = .ok (.ireturn, 1) := by decide +kernel
theorem dX7_copy_34 : decode cX7_copy 34 = .ok (.iload_n 2, 1) := by decide +kernel
theorem dX7_copy_35 : decode cX7_copy 35 = .ok (.iconst 2, 1) := by decide +kernel
theorem dX7_copy_36 : decode cX7_copy 36 = .ok (.if_icmp .ne 24, 3) := by decide +kernel
theorem dX7_copy_39 : decode cX7_copy 39 = .ok (.aload_n 0, 1) := by decide +kernel
theorem dX7_copy_40 : decode cX7_copy 40 = .ok (.getfield 12, 3) := by decide +kernel
theorem dX7_copy_43 : decode cX7_copy 43 = .ok (.getfield 150, 3) := by decide +kernel
theorem dX7_copy_46 : decode cX7_copy 46 = .ok (.getfield 157, 3) := by decide +kernel
theorem dX7_copy_49 : decode cX7_copy 49 = .ok (.iload_n 1, 1) := by decide +kernel
theorem dX7_copy_50 : decode cX7_copy 50 = .ok (.iaload, 1) := by decide +kernel
theorem dX7_copy_51 : decode cX7_copy 51 = .ok (.aload_n 0, 1) := by decide +kernel
theorem dX7_copy_52 : decode cX7_copy 52 = .ok (.getfield 12, 3) := by decide +kernel
theorem dX7_copy_55 : decode cX7_copy 55 = .ok (.getfield 145, 3) := by decide +kernel
theorem dX7_copy_58 : decode cX7_copy 58 = .ok (.isub, 1) := by decide +kernel
theorem dX7_copy_59 : decode cX7_copy 59 = .ok (.ireturn, 1) := by decide +kernel
theorem dX7_copy_60 : decode cX7_copy 60 = .ok (.iload_n 2, 1) := by decide +kernel
theorem dX7_copy_61 : decode cX7_copy 61 = .ok (.ifCond .ne 18, 3) := by decide +kernel
theorem dX7_copy_64 : decode cX7_copy 64 = .ok (.aload_n 0, 1) := by decide +kernel
theorem dX7_copy_65 : decode cX7_copy 65 = .ok (.getfield 12, 3) := by decide +kernel
theorem dX7_copy_68 : decode cX7_copy 68 = .ok (.getfield 150, 3) := by decide +kernel
theorem dX7_copy_71 : decode cX7_copy 71 = .ok (.getfield 160, 3) := by decide +kernel
theorem dX7_copy_74 : decode cX7_copy 74 = .ok (.iload_n 1, 1) := by decide +kernel
theorem dX7_copy_75 : decode cX7_copy 75 = .ok (.iaload, 1) := by decide +kernel
theorem dX7_copy_76 : decode cX7_copy 76 = .ok (.goto 15, 3) := by decide +kernel
theorem dX7_copy_79 : decode cX7_copy 79 = .ok (.aload_n 0, 1) := by decide +kernel
theorem dX7_copy_80 : decode cX7_copy 80 = .ok (.getfield 12, 3) := by decide +kernel
theorem dX7_copy_83 : decode cX7_copy 83 = .ok (.getfield 150, 3) := by decide +kernel
theorem dX7_copy_86 : decode cX7_copy 86 = .ok (.getfield 163, 3) := by decide +kernel
theorem dX7_copy_89 : decode cX7_copy 89 = .ok (.iload_n 1, 1) := by decide +kernel
theorem dX7_copy_90 : decode cX7_copy 90 = .ok (.iaload, 1) := by decide +kernel
theorem dX7_copy_91 : decode cX7_copy 91 = .ok (.ireturn, 1) := by decide +kernel
theorem dX7_type_0 : decode cX7_type 0 = .ok (.iload_n 1, 1) := by decide +kernel
theorem dX7_type_1 : decode cX7_type 1 = .ok (.ifCond .lt 9, 3) := by decide +kernel
theorem dX7_type_4 : decode cX7_type 4 = .ok (.iload_n 1, 1) := by decide +kernel
theorem dX7_type_5 : decode cX7_type 5 = .ok (.bipush 127, 2) := by decide +kernel
theorem dX7_type_7 : decode cX7_type 7 = .ok (.if_icmp .le 8, 3) := by decide +kernel
theorem dX7_type_10 : decode cX7_type 10 = .ok (.aload_n 0, 1) := by decide +kernel
theorem dX7_type_11 : decode cX7_type 11 = .ok (.invokevirtual 30, 3) := by decide +kernel
theorem dX7_type_14 : decode cX7_type 14 = .ok (.ireturn, 1) := by decide +kernel
theorem dX7_type_15 : decode cX7_type 15 = .ok (.aload_n 0, 1) := by decide +kernel
theorem dX7_type_16 : decode cX7_type 16 = .ok (.getfield 19, 3) := by decide +kernel
theorem dX7_type_19 : decode cX7_type 19 = .ok (.getfield 166, 3) := by decide +kernel
theorem dX7_type_22 : decode cX7_type 22 = .ok (.bipush 120, 2) := by decide +kernel
theorem dX7_type_24 : decode cX7_type 24 = .ok (.if_icmp .lt 8, 3) := by decide +kernel
theorem dX7_type_27 : decode cX7_type 27 = .ok (.aload_n 0, 1) := by decide +kernel
theorem dX7_type_28 : decode cX7_type 28 = .ok (.invokevirtual 91, 3) := by decide +kernel
theorem dX7_type_31 : decode cX7_type 31 = .ok (.ireturn, 1) := by decide +kernel
theorem dX7_type_32 : decode cX7_type 32 = .ok (.aload_n 0, 1) := by decide +kernel
theorem dX7_type_33 : decode cX7_type 33 = .ok (.getfield 19, 3) := by decide +kernel
theorem dX7_type_36 : decode cX7_type 36 = .ok (.getfield 169, 3) := by decide +kernel
theorem dX7_type_39 : decode cX7_type 39 = .ok (.aload_n 0, 1) := by decide +kernel
theorem dX7_type_40 : decode cX7_type 40 = .ok (.getfield 19, 3) := by decide +kernel
theorem dX7_type_43 : decode cX7_type 43 = .ok (.getfield 166, 3) := by decide +kernel
theorem dX7_type_46 : decode cX7_type 46 = .ok (.iload_n 1, 1) := by decide +kernel
theorem dX7_type_47 : decode cX7_type 47 = .ok (.iastore, 1) := by decide +kernel
theorem dX7_type_48 : decode cX7_type 48 = .ok (.aload_n 0, 1) := by decide +kernel
theorem dX7_type_49 : decode cX7_type 49 = .ok (.getfield 19, 3) := by decide +kernel
theorem dX7_type_52 : decode cX7_type 52 = .ok (.dup, 1) := by decide +kernel
theorem dX7_type_53 : decode cX7_type 53 = .ok (.getfield 166, 3) := by decide +kernel
theorem dX7_type_56 : decode cX7_type 56 = .ok (.iconst 1, 1) := by decide +kernel
theorem dX7_type_57 : decode cX7_type 57 = .ok (.iadd, 1) := by decide +kernel
theorem dX7_type_58 : decode cX7_type 58 = .ok (.putfield 166, 3) := by decide +kernel
theorem dX7_type_61 : decode cX7_type 61 = .ok (.aload_n 0, 1) := by decide +kernel
theorem dX7_type_62 : decode cX7_type 62 = .ok (.getfield 19, 3) := by decide +kernel
theorem dX7_type_65 : decode cX7_type 65 = .ok (.getfield 166, 3) := by decide +kernel
theorem dX7_type_68 : decode cX7_type 68 = .ok (.ireturn, 1) := by decide +kernel
theorem dX7_clear_0 : decode cX7_clear 0 = .ok (.aload_n 0, 1) := by decide +kernel
theorem dX7_clear_1 : decode cX7_clear 1 = .ok (.getfield 19, 3) := by decide +kernel
theorem dX7_clear_4 : decode cX7_clear 4 = .ok (.getfield 166, 3) := by decide +kernel
theorem dX7_clear_7 : decode cX7_clear 7 = .ok (.istore_n 1, 1) := by decide +kernel
theorem dX7_clear_8 : decode cX7_clear 8 = .ok (.aload_n 0, 1) := by decide +kernel
theorem dX7_clear_9 : decode cX7_clear 9 = .ok (.getfield 19, 3) := by decide +kernel
theorem dX7_clear_12 : decode cX7_clear 12 = .ok (.iconst 0, 1) := by decide +kernel
theorem dX7_clear_13 : decode cX7_clear 13 = .ok (.putfield 166, 3) := by decide +kernel
theorem dX7_clear_16 : decode cX7_clear 16 = .ok (.iload_n 1, 1) := by decide +kernel
theorem dX7_clear_17 : decode cX7_clear 17 = .ok (.ireturn, 1) := by decide +kernel
theorem dX7_does_0 : decode cX7_does 0 = .ok (.aload_n 0, 1) := by decide +kernel
theorem dX7_does_1 : decode cX7_does 1 = .ok (.getfield 19, 3) := by decide +kernel
theorem dX7_does_4 : decode cX7_does 4 = .ok (.aload_n 0, 1) := by decide +kernel
theorem dX7_does_5 : decode cX7_does 5 = .ok (.getfield 12, 3) := by decide +kernel
theorem dX7_does_8 : decode cX7_does 8 = .ok (.getfield 37, 3) := by decide +kernel
theorem dX7_does_11 : decode cX7_does 11 = .ok (.aload_n 0, 1) := by decide +kernel
theorem dX7_does_12 : decode cX7_does 12 = .ok (.getfield 12, 3) := by decide +kernel
theorem dX7_does_15 : decode cX7_does 15 = .ok (.getfield 41, 3) := by decide +kernel
theorem dX7_does_18 : decode cX7_does 18 = .ok (.invokevirtual 172, 3) := by decide +kernel
theorem dX7_does_21 : decode cX7_does 21 = .ok (.istore_n 1, 1) := by decide +kernel
theorem dX7_does_22 : decode cX7_does 22 = .ok (.iload_n 1, 1) := by decide +kernel
theorem dX7_does_23 : decode cX7_does 23 = .ok (.iconst (-1), 1) := by decide +kernel
theorem dX7_does_24 : decode cX7_does 24 = .ok (.if_icmp .eq 8, 3) := by decide +kernel
theorem dX7_does_27 : decode cX7_does 27 = .ok (.bipush (-10), 2) := by decide +kernel
theorem dX7_does_29 : decode cX7_does 29 = .ok (.iload_n 1, 1) := by decide +kernel
theorem dX7_does_30 : decode cX7_does 30 = .ok (.isub, 1) := by decide +kernel
theorem dX7_does_31 : decode cX7_does 31 = .ok (.ireturn, 1) := by decide +kernel
theorem dX7_does_32 : decode cX7_does 32 = .ok (.iconst 0, 1) := by decide +kernel
theorem dX7_does_33 : decode cX7_does 33 = .ok (.istore_n 2, 1) := by decide +kernel
theorem dX7_does_34 : decode cX7_does 34 = .ok (.iconst 0, 1) := by decide +kernel
theorem dX7_does_35 : decode cX7_does 35 = .ok (.istore_n 3, 1) := by decide +kernel
theorem dX7_does_36 : decode cX7_does 36 = .ok (.iload_n 3, 1) := by decide +kernel
theorem dX7_does_37 : decode cX7_does 37 = .ok (.aload_n 0, 1) := by decide +kernel
theorem dX7_does_38 : decode cX7_does 38 = .ok (.getfield 19, 3) := by decide +kernel
theorem dX7_does_41 : decode cX7_does 41 = .ok (.getfield 175, 3) := by decide +kernel
theorem dX7_does_44 : decode cX7_does 44 = .ok (.if_icmp .ge 23, 3) := by decide +kernel
theorem dX7_does_47 : decode cX7_does 47 = .ok (.iload_n 3, 1) := by decide +kernel
theorem dX7_does_48 : decode cX7_does 48 = .ok (.bipush 40, 2) := by decide +kernel
theorem dX7_does_50 : decode cX7_does 50 = .ok (.if_icmp .ge 17, 3) := by decide +kernel
theorem dX7_does_53 : decode cX7_does 53 = .ok (.iload_n 2, 1) := by decide +kernel
theorem dX7_does_54 : decode cX7_does 54 = .ok (.aload_n 0, 1) := by decide +kernel
theorem dX7_does_55 : decode cX7_does 55 = .ok (.iload_n 3, 1) := by decide +kernel
theorem dX7_does_56 : decode cX7_does 56 = .ok (.invokevirtual 178, 3) := by decide +kernel
theorem dX7_does_59 : decode cX7_does 59 = .ok (.iadd, 1) := by decide +kernel
theorem dX7_does_60 : decode cX7_does 60 = .ok (.istore_n 2, 1) := by decide +kernel
theorem dX7_does_61 : decode cX7_does 61 = .ok (.iinc 3 1, 3) := by decide +kernel
theorem dX7_does_64 : decode cX7_does 64 = .ok (.goto (-28), 3) := by decide +kernel
theorem dX7_does_67 : decode cX7_does 67 = .ok (.iload_n 2, 1) := by decide +kernel
theorem dX7_does_68 : decode cX7_does 68 = .ok (.ireturn, 1) := by decide +kernel
theorem dX7_told_0 : decode cX7_told 0 = .ok (.iload_n 1, 1) := by decide +kernel
theorem dX7_told_1 : decode cX7_told 1 = .ok (.ifCond .lt 9, 3) := by decide +kernel
theorem dX7_told_4 : decode cX7_told 4 = .ok (.iload_n 1, 1) := by decide +kernel
theorem dX7_told_5 : decode cX7_told 5 = .ok (.bipush 6, 2) := by decide +kernel
theorem dX7_told_7 : decode cX7_told 7 = .ok (.if_icmp .le 8, 3) := by decide +kernel
theorem dX7_told_10 : decode cX7_told 10 = .ok (.aload_n 0, 1) := by decide +kernel
theorem dX7_told_11 : decode cX7_told 11 = .ok (.invokevirtual 30, 3) := by decide +kernel
theorem dX7_told_14 : decode cX7_told 14 = .ok (.ireturn, 1) := by decide +kernel
theorem dX7_told_15 : decode cX7_told 15 = .ok (.iload_n 1, 1) := by decide +kernel
theorem dX7_told_16 : decode cX7_told 16 = .ok (.tableswitch 55 0 3 #[32, 37, 42, 47], 32) := by decide +kernel
theorem dX7_told_48 : decode cX7_told 48 = .ok (.aload_n 0, 1) := by decide +kernel
theorem dX7_told_49 : decode cX7_told 49 = .ok (.getfield 125, 3) := by decide +kernel
theorem dX7_told_52 : decode cX7_told 52 = .ok (.ireturn, 1) := by decide +kernel
theorem dX7_told_53 : decode cX7_told 53 = .ok (.aload_n 0, 1) := by decide +kernel
theorem dX7_told_54 : decode cX7_told 54 = .ok (.getfield 181, 3) := by decide +kernel
theorem dX7_told_57 : decode cX7_told 57 = .ok (.ireturn, 1) := by decide +kernel
theorem dX7_told_58 : decode cX7_told 58 = .ok (.aload_n 0, 1) := by decide +kernel
theorem dX7_told_59 : decode cX7_told 59 = .ok (.getfield 184, 3) := by decide +kernel
theorem dX7_told_62 : decode cX7_told 62 = .ok (.ireturn, 1) := by decide +kernel
theorem dX7_told_63 : decode cX7_told 63 = .ok (.aload_n 0, 1) := by decide +kernel
theorem dX7_told_64 : decode cX7_told 64 = .ok (.getfield 19, 3) := by decide +kernel
theorem dX7_told_67 : decode cX7_told 67 = .ok (.getfield 166, 3) := by decide +kernel
theorem dX7_told_70 : decode cX7_told 70 = .ok (.ireturn, 1) := by decide +kernel
theorem dX7_told_71 : decode cX7_told 71 = .ok (.aload_n 0, 1) := by decide +kernel
theorem dX7_told_72 : decode cX7_told 72 = .ok (.iload_n 1, 1) := by decide +kernel
theorem dX7_told_73 : decode cX7_told 73 = .ok (.iconst 4, 1) := by decide +kernel
theorem dX7_told_74 : decode cX7_told 74 = .ok (.isub, 1) := by decide +kernel
theorem dX7_told_75 : decode cX7_told 75 = .ok (.invokevirtual 34, 3) := by decide +kernel
theorem dX7_told_78 : decode cX7_told 78 = .ok (.ireturn, 1) := by decide +kernel
theorem dX7_digest_0 : decode cX7_digest 0 = .ok (.ldc2_w 187, 3) := by decide +kernel
theorem dX7_digest_3 : decode cX7_digest 3 = .ok (.lstore_n 1, 1) := by decide +kernel
theorem dX7_digest_4 : decode cX7_digest 4 = .ok (.iconst 0, 1) := by decide +kernel
theorem dX7_digest_5 : decode cX7_digest 5 = .ok (.istore_n 3, 1) := by decide +kernel
theorem dX7_digest_6 : decode cX7_digest 6 = .ok (.iload_n 3, 1) := by decide +kernel
theorem dX7_digest_7 : decode cX7_digest 7 = .ok (.bipush 6, 2) := by decide +kernel
theorem dX7_digest_9 : decode cX7_digest 9 = .ok (.if_icmp .gt 22, 3) := by decide +kernel
theorem dX7_digest_12 : decode cX7_digest 12 = .ok (.ldc2_w 189, 3) := by decide +kernel
theorem dX7_digest_15 : decode cX7_digest 15 = .ok (.lload_n 1, 1) := by decide +kernel
theorem dX7_digest_16 : decode cX7_digest 16 = .ok (.lmul, 1) := by decide +kernel
theorem dX7_digest_17 : decode cX7_digest 17 = .ok (.aload_n 0, 1) := by decide +kernel
theorem dX7_digest_18 : decode cX7_digest 18 = .ok (.iload_n 3, 1) := by decide +kernel
theorem dX7_digest_19 : decode cX7_digest 19 = .ok (.invokevirtual 191, 3) := by decide +kernel
theorem dX7_digest_22 : decode cX7_digest 22 = .ok (.i2l, 1) := by decide +kernel
theorem dX7_digest_23 : decode cX7_digest 23 = .ok (.ladd, 1) := by decide +kernel
theorem dX7_digest_24 : decode cX7_digest 24 = .ok (.lstore_n 1, 1) := by decide +kernel
theorem dX7_digest_25 : decode cX7_digest 25 = .ok (.iinc 3 1, 3) := by decide +kernel
theorem dX7_digest_28 : decode cX7_digest 28 = .ok (.goto (-22), 3) := by decide +kernel
theorem dX7_digest_31 : decode cX7_digest 31 = .ok (.iconst 0, 1) := by decide +kernel
theorem dX7_digest_32 : decode cX7_digest 32 = .ok (.istore_n 3, 1) := by decide +kernel
theorem dX7_digest_33 : decode cX7_digest 33 = .ok (.iload_n 3, 1) := by decide +kernel
theorem dX7_digest_34 : decode cX7_digest 34 = .ok (.aload_n 0, 1) := by decide +kernel
theorem dX7_digest_35 : decode cX7_digest 35 = .ok (.getfield 12, 3) := by decide +kernel
theorem dX7_digest_38 : decode cX7_digest 38 = .ok (.getfield 37, 3) := by decide +kernel
theorem dX7_digest_41 : decode cX7_digest 41 = .ok (.if_icmp .ge 40, 3) := by decide +kernel
theorem dX7_digest_44 : decode cX7_digest 44 = .ok (.iconst 0, 1) := by decide +kernel
theorem dX7_digest_45 : decode cX7_digest 45 = .ok (.istore 4, 2) := by decide +kernel
theorem dX7_digest_47 : decode cX7_digest 47 = .ok (.iload 4, 2) := by decide +kernel
theorem dX7_digest_49 : decode cX7_digest 49 = .ok (.bipush 7, 2) := by decide +kernel
theorem dX7_digest_51 : decode cX7_digest 51 = .ok (.if_icmp .gt 24, 3) := by decide +kernel
theorem dX7_digest_54 : decode cX7_digest 54 = .ok (.ldc2_w 189, 3) := by decide +kernel
theorem dX7_digest_57 : decode cX7_digest 57 = .ok (.lload_n 1, 1) := by decide +kernel
theorem dX7_digest_58 : decode cX7_digest 58 = .ok (.lmul, 1) := by decide +kernel
theorem dX7_digest_59 : decode cX7_digest 59 = .ok (.aload_n 0, 1) := by decide +kernel
theorem dX7_digest_60 : decode cX7_digest 60 = .ok (.iload_n 3, 1) := by decide +kernel
theorem dX7_digest_61 : decode cX7_digest 61 = .ok (.iload 4, 2) := by decide +kernel
theorem dX7_digest_63 : decode cX7_digest 63 = .ok (.invokevirtual 194, 3) := by decide +kernel
theorem dX7_digest_66 : decode cX7_digest 66 = .ok (.i2l, 1) := by decide +kernel
theorem dX7_digest_67 : decode cX7_digest 67 = .ok (.ladd, 1) := by decide +kernel
theorem dX7_digest_68 : decode cX7_digest 68 = .ok (.lstore_n 1, 1) := by decide +kernel
theorem dX7_digest_69 : decode cX7_digest 69 = .ok (.iinc 4 1, 3) := by decide +kernel
theorem dX7_digest_72 : decode cX7_digest 72 = .ok (.goto (-25), 3) := by decide +kernel
theorem dX7_digest_75 : decode cX7_digest 75 = .ok (.iinc 3 1, 3) := by decide +kernel
theorem dX7_digest_78 : decode cX7_digest 78 = .ok (.goto (-45), 3) := by decide +kernel
theorem dX7_digest_81 : decode cX7_digest 81 = .ok (.iconst 0, 1) := by decide +kernel
theorem dX7_digest_82 : decode cX7_digest 82 = .ok (.istore_n 3, 1) := by decide +kernel
theorem dX7_digest_83 : decode cX7_digest 83 = .ok (.iload_n 3, 1) := by decide +kernel
theorem dX7_digest_84 : decode cX7_digest 84 = .ok (.aload_n 0, 1) := by decide +kernel
theorem dX7_digest_85 : decode cX7_digest 85 = .ok (.getfield 12, 3) := by decide +kernel
theorem dX7_digest_88 : decode cX7_digest 88 = .ok (.getfield 41, 3) := by decide +kernel
theorem dX7_digest_91 : decode cX7_digest 91 = .ok (.if_icmp .ge 39, 3) := by decide +kernel
theorem dX7_digest_94 : decode cX7_digest 94 = .ok (.iconst 0, 1) := by decide +kernel
theorem dX7_digest_95 : decode cX7_digest 95 = .ok (.istore 4, 2) := by decide +kernel
theorem dX7_digest_97 : decode cX7_digest 97 = .ok (.iload 4, 2) := by decide +kernel
theorem dX7_digest_99 : decode cX7_digest 99 = .ok (.iconst 3, 1) := by decide +kernel
theorem dX7_digest_100 : decode cX7_digest 100 = .ok (.if_icmp .gt 24, 3) := by decide +kernel
theorem dX7_digest_103 : decode cX7_digest 103 = .ok (.ldc2_w 189, 3) := by decide +kernel
theorem dX7_digest_106 : decode cX7_digest 106 = .ok (.lload_n 1, 1) := by decide +kernel
theorem dX7_digest_107 : decode cX7_digest 107 = .ok (.lmul, 1) := by decide +kernel
theorem dX7_digest_108 : decode cX7_digest 108 = .ok (.aload_n 0, 1) := by decide +kernel
theorem dX7_digest_109 : decode cX7_digest 109 = .ok (.iload_n 3, 1) := by decide +kernel
theorem dX7_digest_110 : decode cX7_digest 110 = .ok (.iload 4, 2) := by decide +kernel
theorem dX7_digest_112 : decode cX7_digest 112 = .ok (.invokevirtual 197, 3) := by decide +kernel
theorem dX7_digest_115 : decode cX7_digest 115 = .ok (.i2l, 1) := by decide +kernel
theorem dX7_digest_116 : decode cX7_digest 116 = .ok (.ladd, 1) := by decide +kernel
theorem dX7_digest_117 : decode cX7_digest 117 = .ok (.lstore_n 1, 1) := by decide +kernel
theorem dX7_digest_118 : decode cX7_digest 118 = .ok (.iinc 4 1, 3) := by decide +kernel
theorem dX7_digest_121 : decode cX7_digest 121 = .ok (.goto (-24), 3) := by decide +kernel
theorem dX7_digest_124 : decode cX7_digest 124 = .ok (.iinc 3 1, 3) := by decide +kernel
theorem dX7_digest_127 : decode cX7_digest 127 = .ok (.goto (-44), 3) := by decide +kernel
theorem dX7_digest_130 : decode cX7_digest 130 = .ok (.iconst 0, 1) := by decide +kernel
theorem dX7_digest_131 : decode cX7_digest 131 = .ok (.istore_n 3, 1) := by decide +kernel
theorem dX7_digest_132 : decode cX7_digest 132 = .ok (.iload_n 3, 1) := by decide +kernel
theorem dX7_digest_133 : decode cX7_digest 133 = .ok (.bipush 8, 2) := by decide +kernel
theorem dX7_digest_135 : decode cX7_digest 135 = .ok (.if_icmp .gt 22, 3) := by decide +kernel
theorem dX7_digest_138 : decode cX7_digest 138 = .ok (.ldc2_w 189, 3) := by decide +kernel
theorem dX7_digest_141 : decode cX7_digest 141 = .ok (.lload_n 1, 1) := by decide +kernel
theorem dX7_digest_142 : decode cX7_digest 142 = .ok (.lmul, 1) := by decide +kernel
theorem dX7_digest_143 : decode cX7_digest 143 = .ok (.aload_n 0, 1) := by decide +kernel
theorem dX7_digest_144 : decode cX7_digest 144 = .ok (.iload_n 3, 1) := by decide +kernel
theorem dX7_digest_145 : decode cX7_digest 145 = .ok (.invokevirtual 200, 3) := by decide +kernel
theorem dX7_digest_148 : decode cX7_digest 148 = .ok (.i2l, 1) := by decide +kernel
theorem dX7_digest_149 : decode cX7_digest 149 = .ok (.ladd, 1) := by decide +kernel
theorem dX7_digest_150 : decode cX7_digest 150 = .ok (.lstore_n 1, 1) := by decide +kernel
theorem dX7_digest_151 : decode cX7_digest 151 = .ok (.iinc 3 1, 3) := by decide +kernel
theorem dX7_digest_154 : decode cX7_digest 154 = .ok (.goto (-22), 3) := by decide +kernel
theorem dX7_digest_157 : decode cX7_digest 157 = .ok (.lload_n 1, 1) := by decide +kernel
theorem dX7_digest_158 : decode cX7_digest 158 = .ok (.lreturn, 1) := by decide +kernel
theorem dX7_refuseBad_0 : decode cX7_refuseBad 0 = .ok (.aload_n 0, 1) := by decide +kernel
theorem dX7_refuseBad_1 : decode cX7_refuseBad 1 = .ok (.dup, 1) := by decide +kernel
theorem dX7_refuseBad_2 : decode cX7_refuseBad 2 = .ok (.getfield 125, 3) := by decide +kernel
theorem dX7_refuseBad_5 : decode cX7_refuseBad 5 = .ok (.iconst 1, 1) := by decide +kernel
theorem dX7_refuseBad_6 : decode cX7_refuseBad 6 = .ok (.iadd, 1) := by decide +kernel
theorem dX7_refuseBad_7 : decode cX7_refuseBad 7 = .ok (.putfield 125, 3) := by decide +kernel
theorem dX7_refuseBad_10 : decode cX7_refuseBad 10 = .ok (.bipush (-2), 2) := by decide +kernel
theorem dX7_refuseBad_12 : decode cX7_refuseBad 12 = .ok (.ireturn, 1) := by decide +kernel
theorem dX7_refuseNo_0 : decode cX7_refuseNo 0 = .ok (.aload_n 0, 1) := by decide +kernel
theorem dX7_refuseNo_1 : decode cX7_refuseNo 1 = .ok (.dup, 1) := by decide +kernel
theorem dX7_refuseNo_2 : decode cX7_refuseNo 2 = .ok (.getfield 181, 3) := by decide +kernel
theorem dX7_refuseNo_5 : decode cX7_refuseNo 5 = .ok (.iconst 1, 1) := by decide +kernel
theorem dX7_refuseNo_6 : decode cX7_refuseNo 6 = .ok (.iadd, 1) := by decide +kernel
theorem dX7_refuseNo_7 : decode cX7_refuseNo 7 = .ok (.putfield 181, 3) := by decide +kernel
theorem dX7_refuseNo_10 : decode cX7_refuseNo 10 = .ok (.bipush (-3), 2) := by decide +kernel
theorem dX7_refuseNo_12 : decode cX7_refuseNo 12 = .ok (.ireturn, 1) := by decide +kernel
theorem dX7_refuseFull_0 : decode cX7_refuseFull 0 = .ok (.aload_n 0, 1) := by decide +kernel
theorem dX7_refuseFull_1 : decode cX7_refuseFull 1 = .ok (.dup, 1) := by decide +kernel
theorem dX7_refuseFull_2 : decode cX7_refuseFull 2 = .ok (.getfield 184, 3) := by decide +kernel
theorem dX7_refuseFull_5 : decode cX7_refuseFull 5 = .ok (.iconst 1, 1) := by decide +kernel
theorem dX7_refuseFull_6 : decode cX7_refuseFull 6 = .ok (.iadd, 1) := by decide +kernel
theorem dX7_refuseFull_7 : decode cX7_refuseFull 7 = .ok (.putfield 184, 3) := by decide +kernel
theorem dX7_refuseFull_10 : decode cX7_refuseFull 10 = .ok (.bipush (-4), 2) := by decide +kernel
theorem dX7_refuseFull_12 : decode cX7_refuseFull 12 = .ok (.ireturn, 1) := by decide +kernel
theorem dX7_isSender_0 : decode cX7_isSender 0 = .ok (.iload_n 1, 1) := by decide +kernel
theorem dX7_isSender_1 : decode cX7_isSender 1 = .ok (.ifCond .lt 18, 3) := by decide +kernel
theorem dX7_isSender_4 : decode cX7_isSender 4 = .ok (.iload_n 1, 1) := by decide +kernel
theorem dX7_isSender_5 : decode cX7_isSender 5 = .ok (.aload_n 0, 1) := by decide +kernel
theorem dX7_isSender_6 : decode cX7_isSender 6 = .ok (.getfield 12, 3) := by decide +kernel
theorem dX7_isSender_9 : decode cX7_isSender 9 = .ok (.getfield 37, 3) := by decide +kernel
theorem dX7_isSender_12 : decode cX7_isSender 12 = .ok (.if_icmp .ge 7, 3) := by decide +kernel
theorem dX7_isSender_15 : decode cX7_isSender 15 = .ok (.iconst 1, 1) := by decide +kernel
theorem dX7_isSender_16 : decode cX7_isSender 16 = .ok (.goto 4, 3) := by decide +kernel
theorem dX7_isSender_19 : decode cX7_isSender 19 = .ok (.iconst 0, 1) := by decide +kernel
theorem dX7_isSender_20 : decode cX7_isSender 20 = .ok (.ireturn, 1) := by decide +kernel
theorem dX7_isGate_0 : decode cX7_isGate 0 = .ok (.iload_n 1, 1) := by decide +kernel
theorem dX7_isGate_1 : decode cX7_isGate 1 = .ok (.ifCond .lt 18, 3) := by decide +kernel
theorem dX7_isGate_4 : decode cX7_isGate 4 = .ok (.iload_n 1, 1) := by decide +kernel
theorem dX7_isGate_5 : decode cX7_isGate 5 = .ok (.aload_n 0, 1) := by decide +kernel
theorem dX7_isGate_6 : decode cX7_isGate 6 = .ok (.getfield 12, 3) := by decide +kernel
theorem dX7_isGate_9 : decode cX7_isGate 9 = .ok (.getfield 41, 3) := by decide +kernel
theorem dX7_isGate_12 : decode cX7_isGate 12 = .ok (.if_icmp .ge 7, 3) := by decide +kernel
theorem dX7_isGate_15 : decode cX7_isGate 15 = .ok (.iconst 1, 1) := by decide +kernel
theorem dX7_isGate_16 : decode cX7_isGate 16 = .ok (.goto 4, 3) := by decide +kernel
theorem dX7_isGate_19 : decode cX7_isGate 19 = .ok (.iconst 0, 1) := by decide +kernel
theorem dX7_isGate_20 : decode cX7_isGate 20 = .ok (.ireturn, 1) := by decide +kernel
theorem dX7_setting_0 : decode cX7_setting 0 = .ok (.iload_n 1, 1) := by decide +kernel
theorem dX7_setting_1 : decode cX7_setting 1 = .ok (.lookupswitch 43 #[(0, 27), (1, 35)], 27) := by decide +kernel
theorem dX7_setting_28 : decode cX7_setting 28 = .ok (.aload_n 0, 1) := by decide +kernel
theorem dX7_setting_29 : decode cX7_setting 29 = .ok (.getfield 12, 3) := by decide +kernel
theorem dX7_setting_32 : decode cX7_setting 32 = .ok (.getfield 37, 3) := by decide +kernel
theorem dX7_setting_35 : decode cX7_setting 35 = .ok (.ireturn, 1) := by decide +kernel
theorem dX7_setting_36 : decode cX7_setting 36 = .ok (.aload_n 0, 1) := by decide +kernel
theorem dX7_setting_37 : decode cX7_setting 37 = .ok (.getfield 12, 3) := by decide +kernel
theorem dX7_setting_40 : decode cX7_setting 40 = .ok (.getfield 41, 3) := by decide +kernel
theorem dX7_setting_43 : decode cX7_setting 43 = .ok (.ireturn, 1) := by decide +kernel
theorem dX7_setting_44 : decode cX7_setting 44 = .ok (.aload_n 0, 1) := by decide +kernel
theorem dX7_setting_45 : decode cX7_setting 45 = .ok (.getfield 12, 3) := by decide +kernel
theorem dX7_setting_48 : decode cX7_setting 48 = .ok (.getfield 44, 3) := by decide +kernel
theorem dX7_setting_51 : decode cX7_setting 51 = .ok (.ireturn, 1) := by decide +kernel
theorem dX7_mostOfSetting_0 : decode cX7_mostOfSetting 0 = .ok (.iload_n 0, 1) := by decide +kernel
theorem dX7_mostOfSetting_1 : decode cX7_mostOfSetting 1 = .ok (.lookupswitch 32 #[(0, 27), (1, 30)], 27) := by decide +kernel
theorem dX7_mostOfSetting_28 : decode cX7_mostOfSetting 28 = .ok (.bipush 6, 2) := by decide +kernel
theorem dX7_mostOfSetting_30 : decode cX7_mostOfSetting 30 = .ok (.ireturn, 1) := by decide +kernel
theorem dX7_mostOfSetting_31 : decode cX7_mostOfSetting 31 = .ok (.iconst 4, 1) := by decide +kernel
theorem dX7_mostOfSetting_32 : decode cX7_mostOfSetting 32 = .ok (.ireturn, 1) := by decide +kernel
theorem dX7_mostOfSetting_33 : decode cX7_mostOfSetting 33 = .ok (.bipush 9, 2) := by decide +kernel
theorem dX7_mostOfSetting_35 : decode cX7_mostOfSetting 35 = .ok (.ireturn, 1) := by decide +kernel
theorem dX7_mostOfSender_0 : decode cX7_mostOfSender 0 = .ok (.iload_n 0, 1) := by decide +kernel
theorem dX7_mostOfSender_1 : decode cX7_mostOfSender 1 = .ok (.tableswitch 34 0 2 #[27, 29, 31], 27) := by decide +kernel
theorem dX7_mostOfSender_28 : decode cX7_mostOfSender 28 = .ok (.iconst 5, 1) := by decide +kernel
theorem dX7_mostOfSender_29 : decode cX7_mostOfSender 29 = .ok (.ireturn, 1) := by decide +kernel
theorem dX7_mostOfSender_30 : decode cX7_mostOfSender 30 = .ok (.iconst 4, 1) := by decide +kernel
theorem dX7_mostOfSender_31 : decode cX7_mostOfSender 31 = .ok (.ireturn, 1) := by decide +kernel
theorem dX7_mostOfSender_32 : decode cX7_mostOfSender 32 = .ok (.bipush 63, 2) := by decide +kernel
theorem dX7_mostOfSender_34 : decode cX7_mostOfSender 34 = .ok (.ireturn, 1) := by decide +kernel
theorem dX7_mostOfSender_35 : decode cX7_mostOfSender 35 = .ok (.iconst 1, 1) := by decide +kernel
theorem dX7_mostOfSender_36 : decode cX7_mostOfSender 36 = .ok (.ireturn, 1) := by decide +kernel
theorem dX7_carryOut_0 : decode cX7_carryOut 0 = .ok (.aload_n 0, 1) := by decide +kernel
theorem dX7_carryOut_1 : decode cX7_carryOut 1 = .ok (.getfield 19, 3) := by decide +kernel
theorem dX7_carryOut_4 : decode cX7_carryOut 4 = .ok (.getfield 203, 3) := by decide +kernel
theorem dX7_carryOut_7 : decode cX7_carryOut 7 = .ok (.iload_n 1, 1) := by decide +kernel
theorem dX7_carryOut_8 : decode cX7_carryOut 8 = .ok (.iaload, 1) := by decide +kernel
theorem dX7_carryOut_9 : decode cX7_carryOut 9 = .ok (.istore_n 2, 1) := by decide +kernel
theorem dX7_carryOut_10 : decode cX7_carryOut 10 = .ok (.aload_n 0, 1) := by decide +kernel
theorem dX7_carryOut_11 : decode cX7_carryOut 11 = .ok (.getfield 19, 3) := by decide +kernel
theorem dX7_carryOut_14 : decode cX7_carryOut 14 = .ok (.getfield 206, 3) := by decide +kernel
theorem dX7_carryOut_17 : decode cX7_carryOut 17 = .ok (.iload_n 1, 1) := by decide +kernel
theorem dX7_carryOut_18 : decode cX7_carryOut 18 = .ok (.iaload, 1) := by decide +kernel
theorem dX7_carryOut_19 : decode cX7_carryOut 19 = .ok (.istore_n 3, 1) := by decide +kernel
theorem dX7_carryOut_20 : decode cX7_carryOut 20 = .ok (.aload_n 0, 1) := by decide +kernel
theorem dX7_carryOut_21 : decode cX7_carryOut 21 = .ok (.getfield 19, 3) := by decide +kernel
theorem dX7_carryOut_24 : decode cX7_carryOut 24 = .ok (.getfield 209, 3) := by decide +kernel
theorem dX7_carryOut_27 : decode cX7_carryOut 27 = .ok (.iload_n 1, 1) := by decide +kernel
theorem dX7_carryOut_28 : decode cX7_carryOut 28 = .ok (.iaload, 1) := by decide +kernel
theorem dX7_carryOut_29 : decode cX7_carryOut 29 = .ok (.istore 4, 2) := by decide +kernel
theorem dX7_carryOut_31 : decode cX7_carryOut 31 = .ok (.aload_n 0, 1) := by decide +kernel
theorem dX7_carryOut_32 : decode cX7_carryOut 32 = .ok (.getfield 19, 3) := by decide +kernel
theorem dX7_carryOut_35 : decode cX7_carryOut 35 = .ok (.getfield 212, 3) := by decide +kernel
theorem dX7_carryOut_38 : decode cX7_carryOut 38 = .ok (.iload_n 1, 1) := by decide +kernel
theorem dX7_carryOut_39 : decode cX7_carryOut 39 = .ok (.iaload, 1) := by decide +kernel
theorem dX7_carryOut_40 : decode cX7_carryOut 40 = .ok (.lookupswitch 174 #[(43, 117), (98, 142), (103, 127), (108, 158), (114, 81), (115, 60)], 60) := by decide +kernel
theorem dX7_carryOut_100 : decode cX7_carryOut 100 = .ok (.aload_n 0, 1) := by decide +kernel
theorem dX7_carryOut_101 : decode cX7_carryOut 101 = .ok (.getfield 12, 3) := by decide +kernel
theorem dX7_carryOut_104 : decode cX7_carryOut 104 = .ok (.invokevirtual 87, 3) := by decide +kernel
theorem dX7_carryOut_107 : decode cX7_carryOut 107 = .ok (.ifCond .ne 12, 3) := by decide +kernel
theorem dX7_carryOut_110 : decode cX7_carryOut 110 = .ok (.aload_n 0, 1) := by decide +kernel
theorem dX7_carryOut_111 : decode cX7_carryOut 111 = .ok (.getfield 12, 3) := by decide +kernel
theorem dX7_carryOut_114 : decode cX7_carryOut 114 = .ok (.iload_n 2, 1) := by decide +kernel
theorem dX7_carryOut_115 : decode cX7_carryOut 115 = .ok (.invokevirtual 94, 3) := by decide +kernel
theorem dX7_carryOut_118 : decode cX7_carryOut 118 = .ok (.pop, 1) := by decide +kernel
theorem dX7_carryOut_119 : decode cX7_carryOut 119 = .ok (.iconst 0, 1) := by decide +kernel
theorem dX7_carryOut_120 : decode cX7_carryOut 120 = .ok (.ireturn, 1) := by decide +kernel
theorem dX7_carryOut_121 : decode cX7_carryOut 121 = .ok (.aload_n 0, 1) := by decide +kernel
theorem dX7_carryOut_122 : decode cX7_carryOut 122 = .ok (.getfield 12, 3) := by decide +kernel
theorem dX7_carryOut_125 : decode cX7_carryOut 125 = .ok (.getfield 77, 3) := by decide +kernel
theorem dX7_carryOut_128 : decode cX7_carryOut 128 = .ok (.iload_n 2, 1) := by decide +kernel
theorem dX7_carryOut_129 : decode cX7_carryOut 129 = .ok (.aaload, 1) := by decide +kernel
theorem dX7_carryOut_130 : decode cX7_carryOut 130 = .ok (.invokevirtual 97, 3) := by decide +kernel
theorem dX7_carryOut_133 : decode cX7_carryOut 133 = .ok (.ifCond .eq 22, 3) := by decide +kernel
theorem dX7_carryOut_136 : decode cX7_carryOut 136 = .ok (.aload_n 0, 1) := by decide +kernel
theorem dX7_carryOut_137 : decode cX7_carryOut 137 = .ok (.getfield 12, 3) := by decide +kernel
theorem dX7_carryOut_140 : decode cX7_carryOut 140 = .ok (.invokevirtual 87, 3) := by decide +kernel
theorem dX7_carryOut_143 : decode cX7_carryOut 143 = .ok (.ifCond .ne 12, 3) := by decide +kernel
theorem dX7_carryOut_146 : decode cX7_carryOut 146 = .ok (.aload_n 0, 1) := by decide +kernel
theorem dX7_carryOut_147 : decode cX7_carryOut 147 = .ok (.getfield 12, 3) := by decide +kernel
theorem dX7_carryOut_150 : decode cX7_carryOut 150 = .ok (.iload_n 2, 1) := by decide +kernel
theorem dX7_carryOut_151 : decode cX7_carryOut 151 = .ok (.invokevirtual 103, 3) := by decide +kernel
theorem dX7_carryOut_154 : decode cX7_carryOut 154 = .ok (.pop, 1) := by decide +kernel
theorem dX7_carryOut_155 : decode cX7_carryOut 155 = .ok (.iconst 0, 1) := by decide +kernel
theorem dX7_carryOut_156 : decode cX7_carryOut 156 = .ok (.ireturn, 1) := by decide +kernel
theorem dX7_carryOut_157 : decode cX7_carryOut 157 = .ok (.aload_n 0, 1) := by decide +kernel
theorem dX7_carryOut_158 : decode cX7_carryOut 158 = .ok (.getfield 12, 3) := by decide +kernel
theorem dX7_carryOut_161 : decode cX7_carryOut 161 = .ok (.iload 4, 2) := by decide +kernel
theorem dX7_carryOut_163 : decode cX7_carryOut 163 = .ok (.invokevirtual 106, 3) := by decide +kernel
theorem dX7_carryOut_166 : decode cX7_carryOut 166 = .ok (.ireturn, 1) := by decide +kernel
theorem dX7_carryOut_167 : decode cX7_carryOut 167 = .ok (.aload_n 0, 1) := by decide +kernel
theorem dX7_carryOut_168 : decode cX7_carryOut 168 = .ok (.getfield 12, 3) := by decide +kernel
theorem dX7_carryOut_171 : decode cX7_carryOut 171 = .ok (.getfield 66, 3) := by decide +kernel
theorem dX7_carryOut_174 : decode cX7_carryOut 174 = .ok (.iload_n 2, 1) := by decide +kernel
theorem dX7_carryOut_175 : decode cX7_carryOut 175 = .ok (.aaload, 1) := by decide +kernel
theorem dX7_carryOut_176 : decode cX7_carryOut 176 = .ok (.iload_n 3, 1) := by decide +kernel
theorem dX7_carryOut_177 : decode cX7_carryOut 177 = .ok (.iload 4, 2) := by decide +kernel
theorem dX7_carryOut_179 : decode cX7_carryOut 179 = .ok (.iastore, 1) := by decide +kernel
theorem dX7_carryOut_180 : decode cX7_carryOut 180 = .ok (.iconst 0, 1) := by decide +kernel
theorem dX7_carryOut_181 : decode cX7_carryOut 181 = .ok (.ireturn, 1) := by decide +kernel
theorem dX7_carryOut_182 : decode cX7_carryOut 182 = .ok (.aload_n 0, 1) := by decide +kernel
theorem dX7_carryOut_183 : decode cX7_carryOut 183 = .ok (.getfield 12, 3) := by decide +kernel
theorem dX7_carryOut_186 : decode cX7_carryOut 186 = .ok (.getfield 51, 3) := by decide +kernel
theorem dX7_carryOut_189 : decode cX7_carryOut 189 = .ok (.iload_n 3, 1) := by decide +kernel
theorem dX7_carryOut_190 : decode cX7_carryOut 190 = .ok (.aaload, 1) := by decide +kernel
theorem dX7_carryOut_191 : decode cX7_carryOut 191 = .ok (.iload 4, 2) := by decide +kernel
theorem dX7_carryOut_193 : decode cX7_carryOut 193 = .ok (.putfield 60, 3) := by decide +kernel
theorem dX7_carryOut_196 : decode cX7_carryOut 196 = .ok (.iconst 0, 1) := by decide +kernel
theorem dX7_carryOut_197 : decode cX7_carryOut 197 = .ok (.ireturn, 1) := by decide +kernel
theorem dX7_carryOut_198 : decode cX7_carryOut 198 = .ok (.aload_n 0, 1) := by decide +kernel
theorem dX7_carryOut_199 : decode cX7_carryOut 199 = .ok (.getfield 12, 3) := by decide +kernel
theorem dX7_carryOut_202 : decode cX7_carryOut 202 = .ok (.getfield 51, 3) := by decide +kernel
theorem dX7_carryOut_205 : decode cX7_carryOut 205 = .ok (.iload_n 3, 1) := by decide +kernel
theorem dX7_carryOut_206 : decode cX7_carryOut 206 = .ok (.aaload, 1) := by decide +kernel
theorem dX7_carryOut_207 : decode cX7_carryOut 207 = .ok (.iload 4, 2) := by decide +kernel
theorem dX7_carryOut_209 : decode cX7_carryOut 209 = .ok (.putfield 55, 3) := by decide +kernel
theorem dX7_carryOut_212 : decode cX7_carryOut 212 = .ok (.iconst 0, 1) := by decide +kernel
theorem dX7_carryOut_213 : decode cX7_carryOut 213 = .ok (.ireturn, 1) := by decide +kernel
theorem dX7_carryOut_214 : decode cX7_carryOut 214 = .ok (.aload_n 0, 1) := by decide +kernel
theorem dX7_carryOut_215 : decode cX7_carryOut 215 = .ok (.getfield 12, 3) := by decide +kernel
theorem dX7_carryOut_218 : decode cX7_carryOut 218 = .ok (.getfield 77, 3) := by decide +kernel
theorem dX7_carryOut_221 : decode cX7_carryOut 221 = .ok (.iload_n 2, 1) := by decide +kernel
theorem dX7_carryOut_222 : decode cX7_carryOut 222 = .ok (.aaload, 1) := by decide +kernel
theorem dX7_carryOut_223 : decode cX7_carryOut 223 = .ok (.invokevirtual 112, 3) := by decide +kernel
theorem dX7_carryOut_226 : decode cX7_carryOut 226 = .ok (.iconst 0, 1) := by decide +kernel
theorem dX7_carryOut_227 : decode cX7_carryOut 227 = .ok (.ireturn, 1) := by decide +kernel
theorem dX8_init_0 : decode cX8_init 0 = .ok (.aload_n 0, 1) := by decide +kernel
theorem dX8_init_1 : decode cX8_init 1 = .ok (.invokespecial 1, 3) := by decide +kernel
theorem dX8_init_4 : decode cX8_init 4 = .ok (.aload_n 0, 1) := by decide +kernel
theorem dX8_init_5 : decode cX8_init 5 = .ok (.iconst 3, 1) := by decide +kernel
theorem dX8_init_6 : decode cX8_init 6 = .ok (.newarray .int, 2) := by decide +kernel
theorem dX8_init_8 : decode cX8_init 8 = .ok (.putfield 7, 3) := by decide +kernel
theorem dX8_init_11 : decode cX8_init 11 = .ok (.aload_n 0, 1) := by decide +kernel
theorem dX8_init_12 : decode cX8_init 12 = .ok (.iconst 3, 1) := by decide +kernel
theorem dX8_init_13 : decode cX8_init 13 = .ok (.putfield 13, 3) := by decide +kernel
theorem dX8_init_16 : decode cX8_init 16 = .ok (.aload_n 0, 1) := by decide +kernel
theorem dX8_init_17 : decode cX8_init 17 = .ok (.iconst 2, 1) := by decide +kernel
theorem dX8_init_18 : decode cX8_init 18 = .ok (.putfield 17, 3) := by decide +kernel
theorem dX8_init_21 : decode cX8_init 21 = .ok (.aload_n 0, 1) := by decide +kernel
theorem dX8_init_22 : decode cX8_init 22 = .ok (.iconst 3, 1) := by decide +kernel
theorem dX8_init_23 : decode cX8_init 23 = .ok (.putfield 20, 3) := by decide +kernel
theorem dX8_init_26 : decode cX8_init 26 = .ok (.aload_n 0, 1) := by decide +kernel
theorem dX8_init_27 : decode cX8_init 27 = .ok (.iconst 4, 1) := by decide +kernel
theorem dX8_init_28 : decode cX8_init 28 = .ok (.newarray .int, 2) := by decide +kernel
theorem dX8_init_30 : decode cX8_init 30 = .ok (.putfield 23, 3) := by decide +kernel
theorem dX8_init_33 : decode cX8_init 33 = .ok (.aload_n 0, 1) := by decide +kernel
theorem dX8_init_34 : decode cX8_init 34 = .ok (.iconst 4, 1) := by decide +kernel
theorem dX8_init_35 : decode cX8_init 35 = .ok (.newarray .int, 2) := by decide +kernel
theorem dX8_init_37 : decode cX8_init 37 = .ok (.dup, 1) := by decide +kernel
theorem dX8_init_38 : decode cX8_init 38 = .ok (.iconst 0, 1) := by decide +kernel
theorem dX8_init_39 : decode cX8_init 39 = .ok (.bipush 10, 2) := by decide +kernel
theorem dX8_init_41 : decode cX8_init 41 = .ok (.iastore, 1) := by decide +kernel
theorem dX8_init_42 : decode cX8_init 42 = .ok (.dup, 1) := by decide +kernel
theorem dX8_init_43 : decode cX8_init 43 = .ok (.iconst 1, 1) := by decide +kernel
theorem dX8_init_44 : decode cX8_init 44 = .ok (.bipush 10, 2) := by decide +kernel
theorem dX8_init_46 : decode cX8_init 46 = .ok (.iastore, 1) := by decide +kernel
theorem dX8_init_47 : decode cX8_init 47 = .ok (.dup, 1) := by decide +kernel
theorem dX8_init_48 : decode cX8_init 48 = .ok (.iconst 2, 1) := by decide +kernel
theorem dX8_init_49 : decode cX8_init 49 = .ok (.bipush 10, 2) := by decide +kernel
theorem dX8_init_51 : decode cX8_init 51 = .ok (.iastore, 1) := by decide +kernel
theorem dX8_init_52 : decode cX8_init 52 = .ok (.dup, 1) := by decide +kernel
theorem dX8_init_53 : decode cX8_init 53 = .ok (.iconst 3, 1) := by decide +kernel
theorem dX8_init_54 : decode cX8_init 54 = .ok (.bipush 10, 2) := by decide +kernel
theorem dX8_init_56 : decode cX8_init 56 = .ok (.iastore, 1) := by decide +kernel
theorem dX8_init_57 : decode cX8_init 57 = .ok (.putfield 26, 3) := by decide +kernel
theorem dX8_init_60 : decode cX8_init 60 = .ok (.aload_n 0, 1) := by decide +kernel
theorem dX8_init_61 : decode cX8_init 61 = .ok (.iconst 4, 1) := by decide +kernel
theorem dX8_init_62 : decode cX8_init 62 = .ok (.newarray .int, 2) := by decide +kernel
theorem dX8_init_64 : decode cX8_init 64 = .ok (.putfield 29, 3) := by decide +kernel
theorem dX8_init_67 : decode cX8_init 67 = .ok (.aload_n 0, 1) := by decide +kernel
theorem dX8_init_68 : decode cX8_init 68 = .ok (.iconst 4, 1) := by decide +kernel
theorem dX8_init_69 : decode cX8_init 69 = .ok (.newarray .int, 2) := by decide +kernel
theorem dX8_init_71 : decode cX8_init 71 = .ok (.putfield 32, 3) := by decide +kernel
theorem dX8_init_74 : decode cX8_init 74 = .ok (.aload_n 0, 1) := by decide +kernel
theorem dX8_init_75 : decode cX8_init 75 = .ok (.iconst 4, 1) := by decide +kernel
theorem dX8_init_76 : decode cX8_init 76 = .ok (.newarray .int, 2) := by decide +kernel
theorem dX8_init_78 : decode cX8_init 78 = .ok (.putfield 35, 3) := by decide +kernel
theorem dX8_init_81 : decode cX8_init 81 = .ok (.aload_n 0, 1) := by decide +kernel
theorem dX8_init_82 : decode cX8_init 82 = .ok (.iconst 4, 1) := by decide +kernel
theorem dX8_init_83 : decode cX8_init 83 = .ok (.newarray .int, 2) := by decide +kernel
theorem dX8_init_85 : decode cX8_init 85 = .ok (.putfield 38, 3) := by decide +kernel
theorem dX8_init_88 : decode cX8_init 88 = .ok (.aload_n 0, 1) := by decide +kernel
theorem dX8_init_89 : decode cX8_init 89 = .ok (.bipush 24, 2) := by decide +kernel
theorem dX8_init_91 : decode cX8_init 91 = .ok (.newarray .int, 2) := by decide +kernel
theorem dX8_init_93 : decode cX8_init 93 = .ok (.dup, 1) := by decide +kernel
theorem dX8_init_94 : decode cX8_init 94 = .ok (.iconst 0, 1) := by decide +kernel
theorem dX8_init_95 : decode cX8_init 95 = .ok (.bipush 20, 2) := by decide +kernel
theorem dX8_init_97 : decode cX8_init 97 = .ok (.iastore, 1) := by decide +kernel
theorem dX8_init_98 : decode cX8_init 98 = .ok (.dup, 1) := by decide +kernel
theorem dX8_init_99 : decode cX8_init 99 = .ok (.iconst 1, 1) := by decide +kernel
theorem dX8_init_100 : decode cX8_init 100 = .ok (.bipush 20, 2) := by decide +kernel
theorem dX8_init_102 : decode cX8_init 102 = .ok (.iastore, 1) := by decide +kernel
theorem dX8_init_103 : decode cX8_init 103 = .ok (.dup, 1) := by decide +kernel
theorem dX8_init_104 : decode cX8_init 104 = .ok (.iconst 2, 1) := by decide +kernel
theorem dX8_init_105 : decode cX8_init 105 = .ok (.bipush 20, 2) := by decide +kernel
theorem dX8_init_107 : decode cX8_init 107 = .ok (.iastore, 1) := by decide +kernel
theorem dX8_init_108 : decode cX8_init 108 = .ok (.dup, 1) := by decide +kernel
theorem dX8_init_109 : decode cX8_init 109 = .ok (.iconst 3, 1) := by decide +kernel
theorem dX8_init_110 : decode cX8_init 110 = .ok (.bipush 20, 2) := by decide +kernel
theorem dX8_init_112 : decode cX8_init 112 = .ok (.iastore, 1) := by decide +kernel
theorem dX8_init_113 : decode cX8_init 113 = .ok (.dup, 1) := by decide +kernel
theorem dX8_init_114 : decode cX8_init 114 = .ok (.iconst 4, 1) := by decide +kernel
theorem dX8_init_115 : decode cX8_init 115 = .ok (.bipush 20, 2) := by decide +kernel
theorem dX8_init_117 : decode cX8_init 117 = .ok (.iastore, 1) := by decide +kernel
theorem dX8_init_118 : decode cX8_init 118 = .ok (.dup, 1) := by decide +kernel
theorem dX8_init_119 : decode cX8_init 119 = .ok (.iconst 5, 1) := by decide +kernel
theorem dX8_init_120 : decode cX8_init 120 = .ok (.bipush 20, 2) := by decide +kernel
theorem dX8_init_122 : decode cX8_init 122 = .ok (.iastore, 1) := by decide +kernel
theorem dX8_init_123 : decode cX8_init 123 = .ok (.dup, 1) := by decide +kernel
theorem dX8_init_124 : decode cX8_init 124 = .ok (.bipush 6, 2) := by decide +kernel
theorem dX8_init_126 : decode cX8_init 126 = .ok (.bipush 20, 2) := by decide +kernel
theorem dX8_init_128 : decode cX8_init 128 = .ok (.iastore, 1) := by decide +kernel
theorem dX8_init_129 : decode cX8_init 129 = .ok (.dup, 1) := by decide +kernel
theorem dX8_init_130 : decode cX8_init 130 = .ok (.bipush 7, 2) := by decide +kernel
theorem dX8_init_132 : decode cX8_init 132 = .ok (.bipush 20, 2) := by decide +kernel
theorem dX8_init_134 : decode cX8_init 134 = .ok (.iastore, 1) := by decide +kernel
theorem dX8_init_135 : decode cX8_init 135 = .ok (.dup, 1) := by decide +kernel
theorem dX8_init_136 : decode cX8_init 136 = .ok (.bipush 8, 2) := by decide +kernel
theorem dX8_init_138 : decode cX8_init 138 = .ok (.bipush 20, 2) := by decide +kernel
theorem dX8_init_140 : decode cX8_init 140 = .ok (.iastore, 1) := by decide +kernel
theorem dX8_init_141 : decode cX8_init 141 = .ok (.dup, 1) := by decide +kernel
theorem dX8_init_142 : decode cX8_init 142 = .ok (.bipush 9, 2) := by decide +kernel
theorem dX8_init_144 : decode cX8_init 144 = .ok (.bipush 20, 2) := by decide +kernel
theorem dX8_init_146 : decode cX8_init 146 = .ok (.iastore, 1) := by decide +kernel
theorem dX8_init_147 : decode cX8_init 147 = .ok (.dup, 1) := by decide +kernel
theorem dX8_init_148 : decode cX8_init 148 = .ok (.bipush 10, 2) := by decide +kernel
theorem dX8_init_150 : decode cX8_init 150 = .ok (.bipush 20, 2) := by decide +kernel
theorem dX8_init_152 : decode cX8_init 152 = .ok (.iastore, 1) := by decide +kernel
theorem dX8_init_153 : decode cX8_init 153 = .ok (.dup, 1) := by decide +kernel
theorem dX8_init_154 : decode cX8_init 154 = .ok (.bipush 11, 2) := by decide +kernel
theorem dX8_init_156 : decode cX8_init 156 = .ok (.bipush 20, 2) := by decide +kernel
theorem dX8_init_158 : decode cX8_init 158 = .ok (.iastore, 1) := by decide +kernel
theorem dX8_init_159 : decode cX8_init 159 = .ok (.dup, 1) := by decide +kernel
theorem dX8_init_160 : decode cX8_init 160 = .ok (.bipush 12, 2) := by decide +kernel
theorem dX8_init_162 : decode cX8_init 162 = .ok (.bipush 20, 2) := by decide +kernel
theorem dX8_init_164 : decode cX8_init 164 = .ok (.iastore, 1) := by decide +kernel
theorem dX8_init_165 : decode cX8_init 165 = .ok (.dup, 1) := by decide +kernel
theorem dX8_init_166 : decode cX8_init 166 = .ok (.bipush 13, 2) := by decide +kernel
theorem dX8_init_168 : decode cX8_init 168 = .ok (.bipush 20, 2) := by decide +kernel
theorem dX8_init_170 : decode cX8_init 170 = .ok (.iastore, 1) := by decide +kernel
theorem dX8_init_171 : decode cX8_init 171 = .ok (.dup, 1) := by decide +kernel
theorem dX8_init_172 : decode cX8_init 172 = .ok (.bipush 14, 2) := by decide +kernel
theorem dX8_init_174 : decode cX8_init 174 = .ok (.bipush 20, 2) := by decide +kernel
theorem dX8_init_176 : decode cX8_init 176 = .ok (.iastore, 1) := by decide +kernel
theorem dX8_init_177 : decode cX8_init 177 = .ok (.dup, 1) := by decide +kernel
theorem dX8_init_178 : decode cX8_init 178 = .ok (.bipush 15, 2) := by decide +kernel
theorem dX8_init_180 : decode cX8_init 180 = .ok (.bipush 20, 2) := by decide +kernel
theorem dX8_init_182 : decode cX8_init 182 = .ok (.iastore, 1) := by decide +kernel
theorem dX8_init_183 : decode cX8_init 183 = .ok (.dup, 1) := by decide +kernel
theorem dX8_init_184 : decode cX8_init 184 = .ok (.bipush 16, 2) := by decide +kernel
theorem dX8_init_186 : decode cX8_init 186 = .ok (.bipush 20, 2) := by decide +kernel
theorem dX8_init_188 : decode cX8_init 188 = .ok (.iastore, 1) := by decide +kernel
theorem dX8_init_189 : decode cX8_init 189 = .ok (.dup, 1) := by decide +kernel
theorem dX8_init_190 : decode cX8_init 190 = .ok (.bipush 17, 2) := by decide +kernel
theorem dX8_init_192 : decode cX8_init 192 = .ok (.bipush 20, 2) := by decide +kernel
theorem dX8_init_194 : decode cX8_init 194 = .ok (.iastore, 1) := by decide +kernel
theorem dX8_init_195 : decode cX8_init 195 = .ok (.dup, 1) := by decide +kernel
theorem dX8_init_196 : decode cX8_init 196 = .ok (.bipush 18, 2) := by decide +kernel
theorem dX8_init_198 : decode cX8_init 198 = .ok (.bipush 20, 2) := by decide +kernel
theorem dX8_init_200 : decode cX8_init 200 = .ok (.iastore, 1) := by decide +kernel
theorem dX8_init_201 : decode cX8_init 201 = .ok (.dup, 1) := by decide +kernel
theorem dX8_init_202 : decode cX8_init 202 = .ok (.bipush 19, 2) := by decide +kernel
theorem dX8_init_204 : decode cX8_init 204 = .ok (.bipush 20, 2) := by decide +kernel
theorem dX8_init_206 : decode cX8_init 206 = .ok (.iastore, 1) := by decide +kernel
theorem dX8_init_207 : decode cX8_init 207 = .ok (.dup, 1) := by decide +kernel
theorem dX8_init_208 : decode cX8_init 208 = .ok (.bipush 20, 2) := by decide +kernel
theorem dX8_init_210 : decode cX8_init 210 = .ok (.bipush 20, 2) := by decide +kernel
theorem dX8_init_212 : decode cX8_init 212 = .ok (.iastore, 1) := by decide +kernel
theorem dX8_init_213 : decode cX8_init 213 = .ok (.dup, 1) := by decide +kernel
theorem dX8_init_214 : decode cX8_init 214 = .ok (.bipush 21, 2) := by decide +kernel
theorem dX8_init_216 : decode cX8_init 216 = .ok (.bipush 20, 2) := by decide +kernel
theorem dX8_init_218 : decode cX8_init 218 = .ok (.iastore, 1) := by decide +kernel
theorem dX8_init_219 : decode cX8_init 219 = .ok (.dup, 1) := by decide +kernel
theorem dX8_init_220 : decode cX8_init 220 = .ok (.bipush 22, 2) := by decide +kernel
theorem dX8_init_222 : decode cX8_init 222 = .ok (.bipush 20, 2) := by decide +kernel
theorem dX8_init_224 : decode cX8_init 224 = .ok (.iastore, 1) := by decide +kernel
theorem dX8_init_225 : decode cX8_init 225 = .ok (.dup, 1) := by decide +kernel
theorem dX8_init_226 : decode cX8_init 226 = .ok (.bipush 23, 2) := by decide +kernel
theorem dX8_init_228 : decode cX8_init 228 = .ok (.bipush 20, 2) := by decide +kernel
theorem dX8_init_230 : decode cX8_init 230 = .ok (.iastore, 1) := by decide +kernel
theorem dX8_init_231 : decode cX8_init 231 = .ok (.putfield 41, 3) := by decide +kernel
theorem dX8_init_234 : decode cX8_init 234 = .ok (.aload_n 0, 1) := by decide +kernel
theorem dX8_init_235 : decode cX8_init 235 = .ok (.bipush 6, 2) := by decide +kernel
theorem dX8_init_237 : decode cX8_init 237 = .ok (.newarray .int, 2) := by decide +kernel
theorem dX8_init_239 : decode cX8_init 239 = .ok (.putfield 44, 3) := by decide +kernel
theorem dX8_init_242 : decode cX8_init 242 = .ok (.aload_n 0, 1) := by decide +kernel
theorem dX8_init_243 : decode cX8_init 243 = .ok (.bipush 6, 2) := by decide +kernel
theorem dX8_init_245 : decode cX8_init 245 = .ok (.newarray .int, 2) := by decide +kernel
theorem dX8_init_247 : decode cX8_init 247 = .ok (.dup, 1) := by decide +kernel
theorem dX8_init_248 : decode cX8_init 248 = .ok (.iconst 0, 1) := by decide +kernel
theorem dX8_init_249 : decode cX8_init 249 = .ok (.iconst 4, 1) := by decide +kernel
theorem dX8_init_250 : decode cX8_init 250 = .ok (.iastore, 1) := by decide +kernel
theorem dX8_init_251 : decode cX8_init 251 = .ok (.dup, 1) := by decide +kernel
theorem dX8_init_252 : decode cX8_init 252 = .ok (.iconst 1, 1) := by decide +kernel
theorem dX8_init_253 : decode cX8_init 253 = .ok (.iconst 4, 1) := by decide +kernel
theorem dX8_init_254 : decode cX8_init 254 = .ok (.iastore, 1) := by decide +kernel
theorem dX8_init_255 : decode cX8_init 255 = .ok (.dup, 1) := by decide +kernel
theorem dX8_init_256 : decode cX8_init 256 = .ok (.iconst 2, 1) := by decide +kernel
theorem dX8_init_257 : decode cX8_init 257 = .ok (.iconst 4, 1) := by decide +kernel
theorem dX8_init_258 : decode cX8_init 258 = .ok (.iastore, 1) := by decide +kernel
theorem dX8_init_259 : decode cX8_init 259 = .ok (.dup, 1) := by decide +kernel
theorem dX8_init_260 : decode cX8_init 260 = .ok (.iconst 3, 1) := by decide +kernel
theorem dX8_init_261 : decode cX8_init 261 = .ok (.iconst 4, 1) := by decide +kernel
theorem dX8_init_262 : decode cX8_init 262 = .ok (.iastore, 1) := by decide +kernel
theorem dX8_init_263 : decode cX8_init 263 = .ok (.dup, 1) := by decide +kernel
theorem dX8_init_264 : decode cX8_init 264 = .ok (.iconst 4, 1) := by decide +kernel
theorem dX8_init_265 : decode cX8_init 265 = .ok (.iconst 4, 1) := by decide +kernel
theorem dX8_init_266 : decode cX8_init 266 = .ok (.iastore, 1) := by decide +kernel
theorem dX8_init_267 : decode cX8_init 267 = .ok (.dup, 1) := by decide +kernel
theorem dX8_init_268 : decode cX8_init 268 = .ok (.iconst 5, 1) := by decide +kernel
theorem dX8_init_269 : decode cX8_init 269 = .ok (.iconst 4, 1) := by decide +kernel
theorem dX8_init_270 : decode cX8_init 270 = .ok (.iastore, 1) := by decide +kernel
theorem dX8_init_271 : decode cX8_init 271 = .ok (.putfield 47, 3) := by decide +kernel
theorem dX8_init_274 : decode cX8_init 274 = .ok (.aload_n 0, 1) := by decide +kernel
theorem dX8_init_275 : decode cX8_init 275 = .ok (.bipush 6, 2) := by decide +kernel
theorem dX8_init_277 : decode cX8_init 277 = .ok (.newarray .int, 2) := by decide +kernel
theorem dX8_init_279 : decode cX8_init 279 = .ok (.putfield 50, 3) := by decide +kernel
theorem dX8_init_282 : decode cX8_init 282 = .ok (.aload_n 0, 1) := by decide +kernel
theorem dX8_init_283 : decode cX8_init 283 = .ok (.bipush 6, 2) := by decide +kernel
theorem dX8_init_285 : decode cX8_init 285 = .ok (.newarray .int, 2) := by decide +kernel
theorem dX8_init_287 : decode cX8_init 287 = .ok (.putfield 53, 3) := by decide +kernel
theorem dX8_init_290 : decode cX8_init 290 = .ok (.aload_n 0, 1) := by decide +kernel
theorem dX8_init_291 : decode cX8_init 291 = .ok (.bipush 6, 2) := by decide +kernel
theorem dX8_init_293 : decode cX8_init 293 = .ok (.newarray .int, 2) := by decide +kernel
theorem dX8_init_295 : decode cX8_init 295 = .ok (.dup, 1) := by decide +kernel
theorem dX8_init_296 : decode cX8_init 296 = .ok (.iconst 0, 1) := by decide +kernel
theorem dX8_init_297 : decode cX8_init 297 = .ok (.bipush (-2), 2) := by decide +kernel
theorem dX8_init_299 : decode cX8_init 299 = .ok (.iastore, 1) := by decide +kernel
theorem dX8_init_300 : decode cX8_init 300 = .ok (.dup, 1) := by decide +kernel
theorem dX8_init_301 : decode cX8_init 301 = .ok (.iconst 1, 1) := by decide +kernel
theorem dX8_init_302 : decode cX8_init 302 = .ok (.bipush (-2), 2) := by decide +kernel
theorem dX8_init_304 : decode cX8_init 304 = .ok (.iastore, 1) := by decide +kernel
theorem dX8_init_305 : decode cX8_init 305 = .ok (.dup, 1) := by decide +kernel
theorem dX8_init_306 : decode cX8_init 306 = .ok (.iconst 2, 1) := by decide +kernel
theorem dX8_init_307 : decode cX8_init 307 = .ok (.bipush (-2), 2) := by decide +kernel
theorem dX8_init_309 : decode cX8_init 309 = .ok (.iastore, 1) := by decide +kernel
theorem dX8_init_310 : decode cX8_init 310 = .ok (.dup, 1) := by decide +kernel
theorem dX8_init_311 : decode cX8_init 311 = .ok (.iconst 3, 1) := by decide +kernel
theorem dX8_init_312 : decode cX8_init 312 = .ok (.bipush (-2), 2) := by decide +kernel
theorem dX8_init_314 : decode cX8_init 314 = .ok (.iastore, 1) := by decide +kernel
theorem dX8_init_315 : decode cX8_init 315 = .ok (.dup, 1) := by decide +kernel
theorem dX8_init_316 : decode cX8_init 316 = .ok (.iconst 4, 1) := by decide +kernel
theorem dX8_init_317 : decode cX8_init 317 = .ok (.bipush (-2), 2) := by decide +kernel
theorem dX8_init_319 : decode cX8_init 319 = .ok (.iastore, 1) := by decide +kernel
theorem dX8_init_320 : decode cX8_init 320 = .ok (.dup, 1) := by decide +kernel
theorem dX8_init_321 : decode cX8_init 321 = .ok (.iconst 5, 1) := by decide +kernel
theorem dX8_init_322 : decode cX8_init 322 = .ok (.bipush (-2), 2) := by decide +kernel
theorem dX8_init_324 : decode cX8_init 324 = .ok (.iastore, 1) := by decide +kernel
theorem dX8_init_325 : decode cX8_init 325 = .ok (.putfield 56, 3) := by decide +kernel
theorem dX8_init_328 : decode cX8_init 328 = .ok (.aload_n 0, 1) := by decide +kernel
theorem dX8_init_329 : decode cX8_init 329 = .ok (.bipush 6, 2) := by decide +kernel
theorem dX8_init_331 : decode cX8_init 331 = .ok (.newarray .int, 2) := by decide +kernel
theorem dX8_init_333 : decode cX8_init 333 = .ok (.dup, 1) := by decide +kernel
theorem dX8_init_334 : decode cX8_init 334 = .ok (.iconst 0, 1) := by decide +kernel
theorem dX8_init_335 : decode cX8_init 335 = .ok (.bipush 63, 2) := by decide +kernel
theorem dX8_init_337 : decode cX8_init 337 = .ok (.iastore, 1) := by decide +kernel
theorem dX8_init_338 : decode cX8_init 338 = .ok (.dup, 1) := by decide +kernel
theorem dX8_init_339 : decode cX8_init 339 = .ok (.iconst 1, 1) := by decide +kernel
theorem dX8_init_340 : decode cX8_init 340 = .ok (.bipush 63, 2) := by decide +kernel
theorem dX8_init_342 : decode cX8_init 342 = .ok (.iastore, 1) := by decide +kernel
theorem dX8_init_343 : decode cX8_init 343 = .ok (.dup, 1) := by decide +kernel
theorem dX8_init_344 : decode cX8_init 344 = .ok (.iconst 2, 1) := by decide +kernel
theorem dX8_init_345 : decode cX8_init 345 = .ok (.bipush 63, 2) := by decide +kernel
theorem dX8_init_347 : decode cX8_init 347 = .ok (.iastore, 1) := by decide +kernel
theorem dX8_init_348 : decode cX8_init 348 = .ok (.dup, 1) := by decide +kernel
theorem dX8_init_349 : decode cX8_init 349 = .ok (.iconst 3, 1) := by decide +kernel
theorem dX8_init_350 : decode cX8_init 350 = .ok (.bipush 63, 2) := by decide +kernel
theorem dX8_init_352 : decode cX8_init 352 = .ok (.iastore, 1) := by decide +kernel
theorem dX8_init_353 : decode cX8_init 353 = .ok (.dup, 1) := by decide +kernel
theorem dX8_init_354 : decode cX8_init 354 = .ok (.iconst 4, 1) := by decide +kernel
theorem dX8_init_355 : decode cX8_init 355 = .ok (.bipush 63, 2) := by decide +kernel
theorem dX8_init_357 : decode cX8_init 357 = .ok (.iastore, 1) := by decide +kernel
theorem dX8_init_358 : decode cX8_init 358 = .ok (.dup, 1) := by decide +kernel
theorem dX8_init_359 : decode cX8_init 359 = .ok (.iconst 5, 1) := by decide +kernel
theorem dX8_init_360 : decode cX8_init 360 = .ok (.bipush 63, 2) := by decide +kernel
theorem dX8_init_362 : decode cX8_init 362 = .ok (.iastore, 1) := by decide +kernel
theorem dX8_init_363 : decode cX8_init 363 = .ok (.putfield 59, 3) := by decide +kernel
theorem dX8_init_366 : decode cX8_init 366 = .ok (.aload_n 0, 1) := by decide +kernel
theorem dX8_init_367 : decode cX8_init 367 = .ok (.bipush 6, 2) := by decide +kernel
theorem dX8_init_369 : decode cX8_init 369 = .ok (.newarray .int, 2) := by decide +kernel
theorem dX8_init_371 : decode cX8_init 371 = .ok (.putfield 62, 3) := by decide +kernel
theorem dX8_init_374 : decode cX8_init 374 = .ok (.aload_n 0, 1) := by decide +kernel
theorem dX8_init_375 : decode cX8_init 375 = .ok (.bipush 24, 2) := by decide +kernel
theorem dX8_init_377 : decode cX8_init 377 = .ok (.newarray .int, 2) := by decide +kernel
theorem dX8_init_379 : decode cX8_init 379 = .ok (.putfield 65, 3) := by decide +kernel
theorem dX8_init_382 : decode cX8_init 382 = .ok (.aload_n 0, 1) := by decide +kernel
theorem dX8_init_383 : decode cX8_init 383 = .ok (.bipush 6, 2) := by decide +kernel
theorem dX8_init_385 : decode cX8_init 385 = .ok (.newarray .int, 2) := by decide +kernel
theorem dX8_init_387 : decode cX8_init 387 = .ok (.putfield 68, 3) := by decide +kernel
theorem dX8_init_390 : decode cX8_init 390 = .ok (.aload_n 0, 1) := by decide +kernel
theorem dX8_init_391 : decode cX8_init 391 = .ok (.bipush 6, 2) := by decide +kernel
theorem dX8_init_393 : decode cX8_init 393 = .ok (.newarray .int, 2) := by decide +kernel
theorem dX8_init_395 : decode cX8_init 395 = .ok (.putfield 71, 3) := by decide +kernel
theorem dX8_init_398 : decode cX8_init 398 = .ok (.aload_n 0, 1) := by decide +kernel
theorem dX8_init_399 : decode cX8_init 399 = .ok (.bipush 60, 2) := by decide +kernel
theorem dX8_init_401 : decode cX8_init 401 = .ok (.newarray .int, 2) := by decide +kernel
theorem dX8_init_403 : decode cX8_init 403 = .ok (.putfield 74, 3) := by decide +kernel
theorem dX8_init_406 : decode cX8_init 406 = .ok (.aload_n 0, 1) := by decide +kernel
theorem dX8_init_407 : decode cX8_init 407 = .ok (.bipush 60, 2) := by decide +kernel
theorem dX8_init_409 : decode cX8_init 409 = .ok (.newarray .int, 2) := by decide +kernel
theorem dX8_init_411 : decode cX8_init 411 = .ok (.putfield 77, 3) := by decide +kernel
theorem dX8_init_414 : decode cX8_init 414 = .ok (.aload_n 0, 1) := by decide +kernel
theorem dX8_init_415 : decode cX8_init 415 = .ok (.bipush 60, 2) := by decide +kernel
theorem dX8_init_417 : decode cX8_init 417 = .ok (.newarray .int, 2) := by decide +kernel
theorem dX8_init_419 : decode cX8_init 419 = .ok (.putfield 80, 3) := by decide +kernel
theorem dX8_init_422 : decode cX8_init 422 = .ok (.aload_n 0, 1) := by decide +kernel
theorem dX8_init_423 : decode cX8_init 423 = .ok (.bipush 60, 2) := by decide +kernel
theorem dX8_init_425 : decode cX8_init 425 = .ok (.newarray .int, 2) := by decide +kernel
theorem dX8_init_427 : decode cX8_init 427 = .ok (.putfield 83, 3) := by decide +kernel
theorem dX8_init_430 : decode cX8_init 430 = .ok (.aload_n 0, 1) := by decide +kernel
theorem dX8_init_431 : decode cX8_init 431 = .ok (.bipush 60, 2) := by decide +kernel
theorem dX8_init_433 : decode cX8_init 433 = .ok (.newarray .int, 2) := by decide +kernel
theorem dX8_init_435 : decode cX8_init 435 = .ok (.putfield 86, 3) := by decide +kernel
theorem dX8_init_438 : decode cX8_init 438 = .ok (.aload_n 0, 1) := by decide +kernel
theorem dX8_init_439 : decode cX8_init 439 = .ok (.sipush 390, 3) := by decide +kernel
theorem dX8_init_442 : decode cX8_init 442 = .ok (.newarray .int, 2) := by decide +kernel
theorem dX8_init_444 : decode cX8_init 444 = .ok (.putfield 89, 3) := by decide +kernel
theorem dX8_init_447 : decode cX8_init 447 = .ok (.aload_n 0, 1) := by decide +kernel
theorem dX8_init_448 : decode cX8_init 448 = .ok (.sipush 390, 3) := by decide +kernel
theorem dX8_init_451 : decode cX8_init 451 = .ok (.newarray .int, 2) := by decide +kernel
theorem dX8_init_453 : decode cX8_init 453 = .ok (.putfield 92, 3) := by decide +kernel
theorem dX8_init_456 : decode cX8_init 456 = .ok (.aload_n 0, 1) := by decide +kernel
theorem dX8_init_457 : decode cX8_init 457 = .ok (.sipush 390, 3) := by decide +kernel
theorem dX8_init_460 : decode cX8_init 460 = .ok (.newarray .int, 2) := by decide +kernel
theorem dX8_init_462 : decode cX8_init 462 = .ok (.putfield 95, 3) := by decide +kernel
theorem dX8_init_465 : decode cX8_init 465 = .ok (.aload_n 0, 1) := by decide +kernel
theorem dX8_init_466 : decode cX8_init 466 = .ok (.sipush 390, 3) := by decide +kernel
theorem dX8_init_469 : decode cX8_init 469 = .ok (.newarray .int, 2) := by decide +kernel
theorem dX8_init_471 : decode cX8_init 471 = .ok (.putfield 98, 3) := by decide +kernel
theorem dX8_init_474 : decode cX8_init 474 = .ok (.aload_n 0, 1) := by decide +kernel
theorem dX8_init_475 : decode cX8_init 475 = .ok (.sipush 1560, 3) := by decide +kernel
theorem dX8_init_478 : decode cX8_init 478 = .ok (.newarray .int, 2) := by decide +kernel
theorem dX8_init_480 : decode cX8_init 480 = .ok (.putfield 101, 3) := by decide +kernel
theorem dX8_init_483 : decode cX8_init 483 = .ok (.aload_n 0, 1) := by decide +kernel
theorem dX8_init_484 : decode cX8_init 484 = .ok (.bipush 6, 2) := by decide +kernel
theorem dX8_init_486 : decode cX8_init 486 = .ok (.newarray .int, 2) := by decide +kernel
theorem dX8_init_488 : decode cX8_init 488 = .ok (.putfield 104, 3) := by decide +kernel
theorem dX8_init_491 : decode cX8_init 491 = .ok (.aload_n 0, 1) := by decide +kernel
theorem dX8_init_492 : decode cX8_init 492 = .ok (.bipush 120, 2) := by decide +kernel
theorem dX8_init_494 : decode cX8_init 494 = .ok (.newarray .int, 2) := by decide +kernel
theorem dX8_init_496 : decode cX8_init 496 = .ok (.putfield 107, 3) := by decide +kernel
theorem dX8_init_499 : decode cX8_init 499 = .ok (.return_, 1) := by decide +kernel
theorem dX8_bad_0 : decode cX8_bad 0 = .ok (.aload_n 0, 1) := by decide +kernel
theorem dX8_bad_1 : decode cX8_bad 1 = .ok (.getfield 7, 3) := by decide +kernel
theorem dX8_bad_4 : decode cX8_bad 4 = .ok (.iconst 0, 1) := by decide +kernel
theorem dX8_bad_5 : decode cX8_bad 5 = .ok (.dup2, 1) := by decide +kernel
theorem dX8_bad_6 : decode cX8_bad 6 = .ok (.iaload, 1) := by decide +kernel
theorem dX8_bad_7 : decode cX8_bad 7 = .ok (.iconst 1, 1) := by decide +kernel
theorem dX8_bad_8 : decode cX8_bad 8 = .ok (.iadd, 1) := by decide +kernel
theorem dX8_bad_9 : decode cX8_bad 9 = .ok (.iastore, 1) := by decide +kernel
theorem dX8_bad_10 : decode cX8_bad 10 = .ok (.bipush (-2), 2) := by decide +kernel
theorem dX8_bad_12 : decode cX8_bad 12 = .ok (.ireturn, 1) := by decide +kernel
theorem dX8_no_0 : decode cX8_no 0 = .ok (.aload_n 0, 1) := by decide +kernel

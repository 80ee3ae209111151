theorem dX0_init_0 : decode cX0_init 0 = .ok (.aload_n 0, 1) := by decide +kernel
theorem dX0_init_1 : decode cX0_init 1 = .ok (.invokespecial 3, 3) := by decide +kernel
theorem dX0_init_4 : decode cX0_init 4 = .ok (.aload_n 0, 1) := by decide +kernel
theorem dX0_init_5 : decode cX0_init 5 = .ok (.bipush 60, 2) := by decide +kernel
theorem dX0_init_7 : decode cX0_init 7 = .ok (.newarray .int, 2) := by decide +kernel
theorem dX0_init_9 : decode cX0_init 9 = .ok (.putfield 9, 3) := by decide +kernel
theorem dX0_init_12 : decode cX0_init 12 = .ok (.aload_n 0, 1) := by decide +kernel
theorem dX0_init_13 : decode cX0_init 13 = .ok (.bipush 60, 2) := by decide +kernel
theorem dX0_init_15 : decode cX0_init 15 = .ok (.newarray .int, 2) := by decide +kernel
theorem dX0_init_17 : decode cX0_init 17 = .ok (.putfield 15, 3) := by decide +kernel
theorem dX0_init_20 : decode cX0_init 20 = .ok (.aload_n 0, 1) := by decide +kernel
theorem dX0_init_21 : decode cX0_init 21 = .ok (.bipush 60, 2) := by decide +kernel
theorem dX0_init_23 : decode cX0_init 23 = .ok (.newarray .int, 2) := by decide +kernel
theorem dX0_init_25 : decode cX0_init 25 = .ok (.putfield 18, 3) := by decide +kernel
theorem dX0_init_28 : decode cX0_init 28 = .ok (.aload_n 0, 1) := by decide +kernel
theorem dX0_init_29 : decode cX0_init 29 = .ok (.bipush 60, 2) := by decide +kernel
theorem dX0_init_31 : decode cX0_init 31 = .ok (.newarray .int, 2) := by decide +kernel
theorem dX0_init_33 : decode cX0_init 33 = .ok (.putfield 21, 3) := by decide +kernel
theorem dX0_init_36 : decode cX0_init 36 = .ok (.aload_n 0, 1) := by decide +kernel
theorem dX0_init_37 : decode cX0_init 37 = .ok (.bipush 60, 2) := by decide +kernel
theorem dX0_init_39 : decode cX0_init 39 = .ok (.newarray .int, 2) := by decide +kernel
theorem dX0_init_41 : decode cX0_init 41 = .ok (.putfield 24, 3) := by decide +kernel
theorem dX0_init_44 : decode cX0_init 44 = .ok (.return_, 1) := by decide +kernel
theorem dX0_add_0 : decode cX0_add 0 = .ok (.aload_n 0, 1) := by decide +kernel
theorem dX0_add_1 : decode cX0_add 1 = .ok (.getfield 27, 3) := by decide +kernel
theorem dX0_add_4 : decode cX0_add 4 = .ok (.bipush 60, 2) := by decide +kernel
theorem dX0_add_6 : decode cX0_add 6 = .ok (.if_icmp .ge 65, 3) := by decide +kernel
theorem dX0_add_9 : decode cX0_add 9 = .ok (.aload_n 0, 1) := by decide +kernel
theorem dX0_add_10 : decode cX0_add 10 = .ok (.getfield 9, 3) := by decide +kernel
theorem dX0_add_13 : decode cX0_add 13 = .ok (.aload_n 0, 1) := by decide +kernel
theorem dX0_add_14 : decode cX0_add 14 = .ok (.getfield 27, 3) := by decide +kernel
theorem dX0_add_17 : decode cX0_add 17 = .ok (.iload_n 1, 1) := by decide +kernel
theorem dX0_add_18 : decode cX0_add 18 = .ok (.iastore, 1) := by decide +kernel
theorem dX0_add_19 : decode cX0_add 19 = .ok (.aload_n 0, 1) := by decide +kernel
theorem dX0_add_20 : decode cX0_add 20 = .ok (.getfield 15, 3) := by decide +kernel
theorem dX0_add_23 : decode cX0_add 23 = .ok (.aload_n 0, 1) := by decide +kernel
theorem dX0_add_24 : decode cX0_add 24 = .ok (.getfield 27, 3) := by decide +kernel
theorem dX0_add_27 : decode cX0_add 27 = .ok (.iload_n 2, 1) := by decide +kernel
theorem dX0_add_28 : decode cX0_add 28 = .ok (.iastore, 1) := by decide +kernel
theorem dX0_add_29 : decode cX0_add 29 = .ok (.aload_n 0, 1) := by decide +kernel
theorem dX0_add_30 : decode cX0_add 30 = .ok (.getfield 18, 3) := by decide +kernel
theorem dX0_add_33 : decode cX0_add 33 = .ok (.aload_n 0, 1) := by decide +kernel
theorem dX0_add_34 : decode cX0_add 34 = .ok (.getfield 27, 3) := by decide +kernel
theorem dX0_add_37 : decode cX0_add 37 = .ok (.iload_n 3, 1) := by decide +kernel
theorem dX0_add_38 : decode cX0_add 38 = .ok (.iastore, 1) := by decide +kernel
theorem dX0_add_39 : decode cX0_add 39 = .ok (.aload_n 0, 1) := by decide +kernel
theorem dX0_add_40 : decode cX0_add 40 = .ok (.getfield 21, 3) := by decide +kernel
theorem dX0_add_43 : decode cX0_add 43 = .ok (.aload_n 0, 1) := by decide +kernel
theorem dX0_add_44 : decode cX0_add 44 = .ok (.getfield 27, 3) := by decide +kernel
theorem dX0_add_47 : decode cX0_add 47 = .ok (.iload 4, 2) := by decide +kernel
theorem dX0_add_49 : decode cX0_add 49 = .ok (.iastore, 1) := by decide +kernel
theorem dX0_add_50 : decode cX0_add 50 = .ok (.aload_n 0, 1) := by decide +kernel
theorem dX0_add_51 : decode cX0_add 51 = .ok (.getfield 24, 3) := by decide +kernel
theorem dX0_add_54 : decode cX0_add 54 = .ok (.aload_n 0, 1) := by decide +kernel
theorem dX0_add_55 : decode cX0_add 55 = .ok (.getfield 27, 3) := by decide +kernel
theorem dX0_add_58 : decode cX0_add 58 = .ok (.iload 5, 2) := by decide +kernel
theorem dX0_add_60 : decode cX0_add 60 = .ok (.iastore, 1) := by decide +kernel
theorem dX0_add_61 : decode cX0_add 61 = .ok (.aload_n 0, 1) := by decide +kernel
theorem dX0_add_62 : decode cX0_add 62 = .ok (.dup, 1) := by decide +kernel
theorem dX0_add_63 : decode cX0_add 63 = .ok (.getfield 27, 3) := by decide +kernel
theorem dX0_add_66 : decode cX0_add 66 = .ok (.iconst 1, 1) := by decide +kernel
theorem dX0_add_67 : decode cX0_add 67 = .ok (.iadd, 1) := by decide +kernel
theorem dX0_add_68 : decode cX0_add 68 = .ok (.putfield 27, 3) := by decide +kernel
theorem dX0_add_71 : decode cX0_add 71 = .ok (.return_, 1) := by decide +kernel
theorem dX0_move_0 : decode cX0_move 0 = .ok (.aload_n 0, 1) := by decide +kernel
theorem dX0_move_1 : decode cX0_move 1 = .ok (.getfield 9, 3) := by decide +kernel
theorem dX0_move_4 : decode cX0_move 4 = .ok (.iload_n 2, 1) := by decide +kernel
theorem dX0_move_5 : decode cX0_move 5 = .ok (.aload_n 0, 1) := by decide +kernel
theorem dX0_move_6 : decode cX0_move 6 = .ok (.getfield 9, 3) := by decide +kernel
theorem dX0_move_9 : decode cX0_move 9 = .ok (.iload_n 1, 1) := by decide +kernel
theorem dX0_move_10 : decode cX0_move 10 = .ok (.iaload, 1) := by decide +kernel
theorem dX0_move_11 : decode cX0_move 11 = .ok (.iastore, 1) := by decide +kernel
theorem dX0_move_12 : decode cX0_move 12 = .ok (.aload_n 0, 1) := by decide +kernel
theorem dX0_move_13 : decode cX0_move 13 = .ok (.getfield 15, 3) := by decide +kernel
theorem dX0_move_16 : decode cX0_move 16 = .ok (.iload_n 2, 1) := by decide +kernel
theorem dX0_move_17 : decode cX0_move 17 = .ok (.aload_n 0, 1) := by decide +kernel
theorem dX0_move_18 : decode cX0_move 18 = .ok (.getfield 15, 3) := by decide +kernel
theorem dX0_move_21 : decode cX0_move 21 = .ok (.iload_n 1, 1) := by decide +kernel
theorem dX0_move_22 : decode cX0_move 22 = .ok (.iaload, 1) := by decide +kernel
theorem dX0_move_23 : decode cX0_move 23 = .ok (.iastore, 1) := by decide +kernel
theorem dX0_move_24 : decode cX0_move 24 = .ok (.aload_n 0, 1) := by decide +kernel
theorem dX0_move_25 : decode cX0_move 25 = .ok (.getfield 18, 3) := by decide +kernel
theorem dX0_move_28 : decode cX0_move 28 = .ok (.iload_n 2, 1) := by decide +kernel
theorem dX0_move_29 : decode cX0_move 29 = .ok (.aload_n 0, 1) := by decide +kernel
theorem dX0_move_30 : decode cX0_move 30 = .ok (.getfield 18, 3) := by decide +kernel
theorem dX0_move_33 : decode cX0_move 33 = .ok (.iload_n 1, 1) := by decide +kernel
theorem dX0_move_34 : decode cX0_move 34 = .ok (.iaload, 1) := by decide +kernel
theorem dX0_move_35 : decode cX0_move 35 = .ok (.iastore, 1) := by decide +kernel
theorem dX0_move_36 : decode cX0_move 36 = .ok (.aload_n 0, 1) := by decide +kernel
theorem dX0_move_37 : decode cX0_move 37 = .ok (.getfield 21, 3) := by decide +kernel
theorem dX0_move_40 : decode cX0_move 40 = .ok (.iload_n 2, 1) := by decide +kernel
theorem dX0_move_41 : decode cX0_move 41 = .ok (.aload_n 0, 1) := by decide +kernel
theorem dX0_move_42 : decode cX0_move 42 = .ok (.getfield 21, 3) := by decide +kernel
theorem dX0_move_45 : decode cX0_move 45 = .ok (.iload_n 1, 1) := by decide +kernel
theorem dX0_move_46 : decode cX0_move 46 = .ok (.iaload, 1) := by decide +kernel
theorem dX0_move_47 : decode cX0_move 47 = .ok (.iastore, 1) := by decide +kernel
theorem dX0_move_48 : decode cX0_move 48 = .ok (.aload_n 0, 1) := by decide +kernel
theorem dX0_move_49 : decode cX0_move 49 = .ok (.getfield 24, 3) := by decide +kernel
theorem dX0_move_52 : decode cX0_move 52 = .ok (.iload_n 2, 1) := by decide +kernel
theorem dX0_move_53 : decode cX0_move 53 = .ok (.aload_n 0, 1) := by decide +kernel
theorem dX0_move_54 : decode cX0_move 54 = .ok (.getfield 24, 3) := by decide +kernel
theorem dX0_move_57 : decode cX0_move 57 = .ok (.iload_n 1, 1) := by decide +kernel
theorem dX0_move_58 : decode cX0_move 58 = .ok (.iaload, 1) := by decide +kernel
theorem dX0_move_59 : decode cX0_move 59 = .ok (.iastore, 1) := by decide +kernel
theorem dX0_move_60 : decode cX0_move 60 = .ok (.return_, 1) := by decide +kernel
theorem dX1_init_0 : decode cX1_init 0 = .ok (.aload_n 0, 1) := by decide +kernel
theorem dX1_init_1 : decode cX1_init 1 = .ok (.invokespecial 3, 3) := by decide +kernel
theorem dX1_init_4 : decode cX1_init 4 = .ok (.return_, 1) := by decide +kernel
theorem dX1_becomeNew_0 : decode cX1_becomeNew 0 = .ok (.aload_n 0, 1) := by decide +kernel
theorem dX1_becomeNew_1 : decode cX1_becomeNew 1 = .ok (.iconst 0, 1) := by decide +kernel
theorem dX1_becomeNew_2 : decode cX1_becomeNew 2 = .ok (.putfield 9, 3) := by decide +kernel
theorem dX1_becomeNew_5 : decode cX1_becomeNew 5 = .ok (.aload_n 0, 1) := by decide +kernel
theorem dX1_becomeNew_6 : decode cX1_becomeNew 6 = .ok (.bipush 10, 2) := by decide +kernel
theorem dX1_becomeNew_8 : decode cX1_becomeNew 8 = .ok (.putfield 15, 3) := by decide +kernel
theorem dX1_becomeNew_11 : decode cX1_becomeNew 11 = .ok (.aload_n 0, 1) := by decide +kernel
theorem dX1_becomeNew_12 : decode cX1_becomeNew 12 = .ok (.iconst 0, 1) := by decide +kernel
theorem dX1_becomeNew_13 : decode cX1_becomeNew 13 = .ok (.putfield 18, 3) := by decide +kernel
theorem dX1_becomeNew_16 : decode cX1_becomeNew 16 = .ok (.aload_n 0, 1) := by decide +kernel
theorem dX1_becomeNew_17 : decode cX1_becomeNew 17 = .ok (.iconst 0, 1) := by decide +kernel
theorem dX1_becomeNew_18 : decode cX1_becomeNew 18 = .ok (.putfield 21, 3) := by decide +kernel
theorem dX1_becomeNew_21 : decode cX1_becomeNew 21 = .ok (.aload_n 0, 1) := by decide +kernel
theorem dX1_becomeNew_22 : decode cX1_becomeNew 22 = .ok (.iconst 0, 1) := by decide +kernel
theorem dX1_becomeNew_23 : decode cX1_becomeNew 23 = .ok (.putfield 24, 3) := by decide +kernel
theorem dX1_becomeNew_26 : decode cX1_becomeNew 26 = .ok (.aload_n 0, 1) := by decide +kernel
theorem dX1_becomeNew_27 : decode cX1_becomeNew 27 = .ok (.iconst 0, 1) := by decide +kernel
theorem dX1_becomeNew_28 : decode cX1_becomeNew 28 = .ok (.putfield 27, 3) := by decide +kernel
theorem dX1_becomeNew_31 : decode cX1_becomeNew 31 = .ok (.return_, 1) := by decide +kernel
theorem dX1_left_0 : decode cX1_left 0 = .ok (.aload_n 0, 1) := by decide +kernel
theorem dX1_left_1 : decode cX1_left 1 = .ok (.getfield 15, 3) := by decide +kernel
theorem dX1_left_4 : decode cX1_left 4 = .ok (.aload_n 0, 1) := by decide +kernel
theorem dX1_left_5 : decode cX1_left 5 = .ok (.getfield 18, 3) := by decide +kernel
theorem dX1_left_8 : decode cX1_left 8 = .ok (.isub, 1) := by decide +kernel
theorem dX1_left_9 : decode cX1_left 9 = .ok (.ireturn, 1) := by decide +kernel
theorem dX1_value_0 : decode cX1_value 0 = .ok (.iload_n 1, 1) := by decide +kernel
theorem dX1_value_1 : decode cX1_value 1 = .ok (.tableswitch 42 0 2 #[27, 32, 37], 27) := by decide +kernel
theorem dX1_value_28 : decode cX1_value 28 = .ok (.aload_n 0, 1) := by decide +kernel
theorem dX1_value_29 : decode cX1_value 29 = .ok (.getfield 21, 3) := by decide +kernel
theorem dX1_value_32 : decode cX1_value 32 = .ok (.ireturn, 1) := by decide +kernel
theorem dX1_value_33 : decode cX1_value 33 = .ok (.aload_n 0, 1) := by decide +kernel
theorem dX1_value_34 : decode cX1_value 34 = .ok (.getfield 24, 3) := by decide +kernel
theorem dX1_value_37 : decode cX1_value 37 = .ok (.ireturn, 1) := by decide +kernel
theorem dX1_value_38 : decode cX1_value 38 = .ok (.aload_n 0, 1) := by decide +kernel
theorem dX1_value_39 : decode cX1_value 39 = .ok (.invokevirtual 30, 3) := by decide +kernel
theorem dX1_value_42 : decode cX1_value 42 = .ok (.ireturn, 1) := by decide +kernel
theorem dX1_value_43 : decode cX1_value 43 = .ok (.aload_n 0, 1) := by decide +kernel
theorem dX1_value_44 : decode cX1_value 44 = .ok (.getfield 27, 3) := by decide +kernel
theorem dX1_value_47 : decode cX1_value 47 = .ok (.ireturn, 1) := by decide +kernel
theorem dX2_init_0 : decode cX2_init 0 = .ok (.aload_n 0, 1) := by decide +kernel
theorem dX2_init_1 : decode cX2_init 1 = .ok (.invokespecial 3, 3) := by decide +kernel
theorem dX2_init_4 : decode cX2_init 4 = .ok (.aload_n 0, 1) := by decide +kernel
theorem dX2_init_5 : decode cX2_init 5 = .ok (.iconst 3, 1) := by decide +kernel
theorem dX2_init_6 : decode cX2_init 6 = .ok (.putfield 9, 3) := by decide +kernel
theorem dX2_init_9 : decode cX2_init 9 = .ok (.aload_n 0, 1) := by decide +kernel
theorem dX2_init_10 : decode cX2_init 10 = .ok (.iconst 2, 1) := by decide +kernel
theorem dX2_init_11 : decode cX2_init 11 = .ok (.putfield 15, 3) := by decide +kernel
theorem dX2_init_14 : decode cX2_init 14 = .ok (.aload_n 0, 1) := by decide +kernel
theorem dX2_init_15 : decode cX2_init 15 = .ok (.iconst 3, 1) := by decide +kernel
theorem dX2_init_16 : decode cX2_init 16 = .ok (.putfield 18, 3) := by decide +kernel
theorem dX2_init_19 : decode cX2_init 19 = .ok (.aload_n 0, 1) := by decide +kernel
theorem dX2_init_20 : decode cX2_init 20 = .ok (.bipush 6, 2) := by decide +kernel
theorem dX2_init_22 : decode cX2_init 22 = .ok (.iconst 4, 1) := by decide +kernel
theorem dX2_init_23 : decode cX2_init 23 = .ok (.multianewarray 21 2, 4) := by decide +kernel
theorem dX2_init_27 : decode cX2_init 27 = .ok (.putfield 23, 3) := by decide +kernel
theorem dX2_init_30 : decode cX2_init 30 = .ok (.aload_n 0, 1) := by decide +kernel
theorem dX2_init_31 : decode cX2_init 31 = .ok (.bipush 6, 2) := by decide +kernel
theorem dX2_init_33 : decode cX2_init 33 = .ok (.anewarray 26, 3) := by decide +kernel
theorem dX2_init_36 : decode cX2_init 36 = .ok (.putfield 28, 3) := by decide +kernel
theorem dX2_init_39 : decode cX2_init 39 = .ok (.aload_n 0, 1) := by decide +kernel
theorem dX2_init_40 : decode cX2_init 40 = .ok (.iconst 4, 1) := by decide +kernel
theorem dX2_init_41 : decode cX2_init 41 = .ok (.anewarray 32, 3) := by decide +kernel
theorem dX2_init_44 : decode cX2_init 44 = .ok (.putfield 34, 3) := by decide +kernel
theorem dX2_init_47 : decode cX2_init 47 = .ok (.aload_n 0, 1) := by decide +kernel
theorem dX2_init_48 : decode cX2_init 48 = .ok (.new 38, 3) := by decide +kernel
theorem dX2_init_51 : decode cX2_init 51 = .ok (.dup, 1) := by decide +kernel
theorem dX2_init_52 : decode cX2_init 52 = .ok (.invokespecial 40, 3) := by decide +kernel
theorem dX2_init_55 : decode cX2_init 55 = .ok (.putfield 41, 3) := by decide +kernel
theorem dX2_init_58 : decode cX2_init 58 = .ok (.aload_n 0, 1) := by decide +kernel
theorem dX2_init_59 : decode cX2_init 59 = .ok (.new 45, 3) := by decide +kernel
theorem dX2_init_62 : decode cX2_init 62 = .ok (.dup, 1) := by decide +kernel
theorem dX2_init_63 : decode cX2_init 63 = .ok (.invokespecial 47, 3) := by decide +kernel
theorem dX2_init_66 : decode cX2_init 66 = .ok (.putfield 48, 3) := by decide +kernel
theorem dX2_init_69 : decode cX2_init 69 = .ok (.aload_n 0, 1) := by decide +kernel
theorem dX2_init_70 : decode cX2_init 70 = .ok (.new 52, 3) := by decide +kernel
theorem dX2_init_73 : decode cX2_init 73 = .ok (.dup, 1) := by decide +kernel
theorem dX2_init_74 : decode cX2_init 74 = .ok (.invokespecial 54, 3) := by decide +kernel
theorem dX2_init_77 : decode cX2_init 77 = .ok (.putfield 55, 3) := by decide +kernel
theorem dX2_init_80 : decode cX2_init 80 = .ok (.iconst 0, 1) := by decide +kernel
theorem dX2_init_81 : decode cX2_init 81 = .ok (.istore_n 1, 1) := by decide +kernel
theorem dX2_init_82 : decode cX2_init 82 = .ok (.iload_n 1, 1) := by decide +kernel
theorem dX2_init_83 : decode cX2_init 83 = .ok (.bipush 6, 2) := by decide +kernel
theorem dX2_init_85 : decode cX2_init 85 = .ok (.if_icmp .ge 22, 3) := by decide +kernel
theorem dX2_init_88 : decode cX2_init 88 = .ok (.aload_n 0, 1) := by decide +kernel
theorem dX2_init_89 : decode cX2_init 89 = .ok (.getfield 28, 3) := by decide +kernel
theorem dX2_init_92 : decode cX2_init 92 = .ok (.iload_n 1, 1) := by decide +kernel
theorem dX2_init_93 : decode cX2_init 93 = .ok (.new 26, 3) := by decide +kernel
theorem dX2_init_96 : decode cX2_init 96 = .ok (.dup, 1) := by decide +kernel
theorem dX2_init_97 : decode cX2_init 97 = .ok (.invokespecial 59, 3) := by decide +kernel
theorem dX2_init_100 : decode cX2_init 100 = .ok (.aastore, 1) := by decide +kernel
theorem dX2_init_101 : decode cX2_init 101 = .ok (.iinc 1 1, 3) := by decide +kernel
theorem dX2_init_104 : decode cX2_init 104 = .ok (.goto (-22), 3) := by decide +kernel
theorem dX2_init_107 : decode cX2_init 107 = .ok (.iconst 0, 1) := by decide +kernel
theorem dX2_init_108 : decode cX2_init 108 = .ok (.istore_n 1, 1) := by decide +kernel
theorem dX2_init_109 : decode cX2_init 109 = .ok (.iload_n 1, 1) := by decide +kernel
theorem dX2_init_110 : decode cX2_init 110 = .ok (.iconst 4, 1) := by decide +kernel
theorem dX2_init_111 : decode cX2_init 111 = .ok (.if_icmp .ge 22, 3) := by decide +kernel
theorem dX2_init_114 : decode cX2_init 114 = .ok (.aload_n 0, 1) := by decide +kernel
theorem dX2_init_115 : decode cX2_init 115 = .ok (.getfield 34, 3) := by decide +kernel
theorem dX2_init_118 : decode cX2_init 118 = .ok (.iload_n 1, 1) := by decide +kernel
theorem dX2_init_119 : decode cX2_init 119 = .ok (.new 32, 3) := by decide +kernel
theorem dX2_init_122 : decode cX2_init 122 = .ok (.dup, 1) := by decide +kernel
theorem dX2_init_123 : decode cX2_init 123 = .ok (.invokespecial 60, 3) := by decide +kernel
theorem dX2_init_126 : decode cX2_init 126 = .ok (.aastore, 1) := by decide +kernel
theorem dX2_init_127 : decode cX2_init 127 = .ok (.iinc 1 1, 3) := by decide +kernel
theorem dX2_init_130 : decode cX2_init 130 = .ok (.goto (-21), 3) := by decide +kernel
theorem dX2_init_133 : decode cX2_init 133 = .ok (.return_, 1) := by decide +kernel
theorem dX2_startAnew_0 : decode cX2_startAnew 0 = .ok (.aload_n 0, 1) := by decide +kernel
theorem dX2_startAnew_1 : decode cX2_startAnew 1 = .ok (.iconst 0, 1) := by decide +kernel
theorem dX2_startAnew_2 : decode cX2_startAnew 2 = .ok (.putfield 61, 3) := by decide +kernel
theorem dX2_startAnew_5 : decode cX2_startAnew 5 = .ok (.aload_n 0, 1) := by decide +kernel
theorem dX2_startAnew_6 : decode cX2_startAnew 6 = .ok (.getfield 41, 3) := by decide +kernel
theorem dX2_startAnew_9 : decode cX2_startAnew 9 = .ok (.iconst 0, 1) := by decide +kernel
theorem dX2_startAnew_10 : decode cX2_startAnew 10 = .ok (.putfield 64, 3) := by decide +kernel
theorem dX2_startAnew_13 : decode cX2_startAnew 13 = .ok (.aload_n 0, 1) := by decide +kernel
theorem dX2_startAnew_14 : decode cX2_startAnew 14 = .ok (.getfield 48, 3) := by decide +kernel
theorem dX2_startAnew_17 : decode cX2_startAnew 17 = .ok (.iconst 0, 1) := by decide +kernel
theorem dX2_startAnew_18 : decode cX2_startAnew 18 = .ok (.putfield 67, 3) := by decide +kernel
theorem dX2_startAnew_21 : decode cX2_startAnew 21 = .ok (.aload_n 0, 1) := by decide +kernel
theorem dX2_startAnew_22 : decode cX2_startAnew 22 = .ok (.iconst 0, 1) := by decide +kernel
theorem dX2_startAnew_23 : decode cX2_startAnew 23 = .ok (.putfield 68, 3) := by decide +kernel
theorem dX2_startAnew_26 : decode cX2_startAnew 26 = .ok (.aload_n 0, 1) := by decide +kernel
theorem dX2_startAnew_27 : decode cX2_startAnew 27 = .ok (.iconst 0, 1) := by decide +kernel
theorem dX2_startAnew_28 : decode cX2_startAnew 28 = .ok (.putfield 71, 3) := by decide +kernel
theorem dX2_startAnew_31 : decode cX2_startAnew 31 = .ok (.aload_n 0, 1) := by decide +kernel
theorem dX2_startAnew_32 : decode cX2_startAnew 32 = .ok (.iconst 0, 1) := by decide +kernel
theorem dX2_startAnew_33 : decode cX2_startAnew 33 = .ok (.putfield 74, 3) := by decide +kernel
theorem dX2_startAnew_36 : decode cX2_startAnew 36 = .ok (.aload_n 0, 1) := by decide +kernel
theorem dX2_startAnew_37 : decode cX2_startAnew 37 = .ok (.iconst 0, 1) := by decide +kernel
theorem dX2_startAnew_38 : decode cX2_startAnew 38 = .ok (.putfield 77, 3) := by decide +kernel
theorem dX2_startAnew_41 : decode cX2_startAnew 41 = .ok (.aload_n 0, 1) := by decide +kernel
theorem dX2_startAnew_42 : decode cX2_startAnew 42 = .ok (.iconst 0, 1) := by decide +kernel
theorem dX2_startAnew_43 : decode cX2_startAnew 43 = .ok (.putfield 80, 3) := by decide +kernel
theorem dX2_startAnew_46 : decode cX2_startAnew 46 = .ok (.aload_n 0, 1) := by decide +kernel
theorem dX2_startAnew_47 : decode cX2_startAnew 47 = .ok (.iconst 0, 1) := by decide +kernel
theorem dX2_startAnew_48 : decode cX2_startAnew 48 = .ok (.putfield 83, 3) := by decide +kernel
theorem dX2_startAnew_51 : decode cX2_startAnew 51 = .ok (.iconst 0, 1) := by decide +kernel
theorem dX2_startAnew_52 : decode cX2_startAnew 52 = .ok (.istore_n 1, 1) := by decide +kernel
theorem dX2_startAnew_53 : decode cX2_startAnew 53 = .ok (.iload_n 1, 1) := by decide +kernel
theorem dX2_startAnew_54 : decode cX2_startAnew 54 = .ok (.bipush 6, 2) := by decide +kernel
theorem dX2_startAnew_56 : decode cX2_startAnew 56 = .ok (.if_icmp .ge 38, 3) := by decide +kernel
theorem dX2_startAnew_59 : decode cX2_startAnew 59 = .ok (.aload_n 0, 1) := by decide +kernel
theorem dX2_startAnew_60 : decode cX2_startAnew 60 = .ok (.getfield 28, 3) := by decide +kernel
theorem dX2_startAnew_63 : decode cX2_startAnew 63 = .ok (.iload_n 1, 1) := by decide +kernel
theorem dX2_startAnew_64 : decode cX2_startAnew 64 = .ok (.aaload, 1) := by decide +kernel
theorem dX2_startAnew_65 : decode cX2_startAnew 65 = .ok (.invokevirtual 86, 3) := by decide +kernel
theorem dX2_startAnew_68 : decode cX2_startAnew 68 = .ok (.aload_n 0, 1) := by decide +kernel
theorem dX2_startAnew_69 : decode cX2_startAnew 69 = .ok (.getfield 28, 3) := by decide +kernel
theorem dX2_startAnew_72 : decode cX2_startAnew 72 = .ok (.iload_n 1, 1) := by decide +kernel
theorem dX2_startAnew_73 : decode cX2_startAnew 73 = .ok (.aaload, 1) := by decide +kernel
theorem dX2_startAnew_74 : decode cX2_startAnew 74 = .ok (.invokevirtual 89, 3) := by decide +kernel
theorem dX2_startAnew_77 : decode cX2_startAnew 77 = .ok (.aload_n 0, 1) := by decide +kernel
theorem dX2_startAnew_78 : decode cX2_startAnew 78 = .ok (.getfield 23, 3) := by decide +kernel
theorem dX2_startAnew_81 : decode cX2_startAnew 81 = .ok (.iload_n 1, 1) := by decide +kernel
theorem dX2_startAnew_82 : decode cX2_startAnew 82 = .ok (.aaload, 1) := by decide +kernel
theorem dX2_startAnew_83 : decode cX2_startAnew 83 = .ok (.bipush 20, 2) := by decide +kernel
theorem dX2_startAnew_85 : decode cX2_startAnew 85 = .ok (.invokestatic 92, 3) := by decide +kernel
theorem dX2_startAnew_88 : decode cX2_startAnew 88 = .ok (.iinc 1 1, 3) := by decide +kernel
theorem dX2_startAnew_91 : decode cX2_startAnew 91 = .ok (.goto (-38), 3) := by decide +kernel
theorem dX2_startAnew_94 : decode cX2_startAnew 94 = .ok (.iconst 0, 1) := by decide +kernel
theorem dX2_startAnew_95 : decode cX2_startAnew 95 = .ok (.istore_n 1, 1) := by decide +kernel
theorem dX2_startAnew_96 : decode cX2_startAnew 96 = .ok (.iload_n 1, 1) := by decide +kernel
theorem dX2_startAnew_97 : decode cX2_startAnew 97 = .ok (.iconst 4, 1) := by decide +kernel
theorem dX2_startAnew_98 : decode cX2_startAnew 98 = .ok (.if_icmp .ge 18, 3) := by decide +kernel
theorem dX2_startAnew_101 : decode cX2_startAnew 101 = .ok (.aload_n 0, 1) := by decide +kernel
theorem dX2_startAnew_102 : decode cX2_startAnew 102 = .ok (.getfield 34, 3) := by decide +kernel
theorem dX2_startAnew_105 : decode cX2_startAnew 105 = .ok (.iload_n 1, 1) := by decide +kernel
theorem dX2_startAnew_106 : decode cX2_startAnew 106 = .ok (.aaload, 1) := by decide +kernel
theorem dX2_startAnew_107 : decode cX2_startAnew 107 = .ok (.invokevirtual 98, 3) := by decide +kernel
theorem dX2_startAnew_110 : decode cX2_startAnew 110 = .ok (.iinc 1 1, 3) := by decide +kernel
theorem dX2_startAnew_113 : decode cX2_startAnew 113 = .ok (.goto (-17), 3) := by decide +kernel
theorem dX2_startAnew_116 : decode cX2_startAnew 116 = .ok (.return_, 1) := by decide +kernel
theorem dX2_drawGains_0 : decode cX2_drawGains 0 = .ok (.iload_n 1, 1) := by decide +kernel
theorem dX2_drawGains_1 : decode cX2_drawGains 1 = .ok (.i2l, 1) := by decide +kernel
theorem dX2_drawGains_2 : decode cX2_drawGains 2 = .ok (.lstore_n 2, 1) := by decide +kernel
theorem dX2_drawGains_3 : decode cX2_drawGains 3 = .ok (.iconst 0, 1) := by decide +kernel
theorem dX2_drawGains_4 : decode cX2_drawGains 4 = .ok (.istore 4, 2) := by decide +kernel
theorem dX2_drawGains_6 : decode cX2_drawGains 6 = .ok (.iconst 0, 1) := by decide +kernel
theorem dX2_drawGains_7 : decode cX2_drawGains 7 = .ok (.istore 5, 2) := by decide +kernel
theorem dX2_drawGains_9 : decode cX2_drawGains 9 = .ok (.iload 5, 2) := by decide +kernel
theorem dX2_drawGains_11 : decode cX2_drawGains 11 = .ok (.aload_n 0, 1) := by decide +kernel
theorem dX2_drawGains_12 : decode cX2_drawGains 12 = .ok (.getfield 9, 3) := by decide +kernel
theorem dX2_drawGains_15 : decode cX2_drawGains 15 = .ok (.if_icmp .ge 76, 3) := by decide +kernel
theorem dX2_drawGains_18 : decode cX2_drawGains 18 = .ok (.iconst 0, 1) := by decide +kernel
theorem dX2_drawGains_19 : decode cX2_drawGains 19 = .ok (.istore 6, 2) := by decide +kernel
theorem dX2_drawGains_21 : decode cX2_drawGains 21 = .ok (.iload 6, 2) := by decide +kernel
theorem dX2_drawGains_23 : decode cX2_drawGains 23 = .ok (.aload_n 0, 1) := by decide +kernel
theorem dX2_drawGains_24 : decode cX2_drawGains 24 = .ok (.getfield 15, 3) := by decide +kernel
theorem dX2_drawGains_27 : decode cX2_drawGains 27 = .ok (.if_icmp .ge 58, 3) := by decide +kernel
theorem dX2_drawGains_30 : decode cX2_drawGains 30 = .ok (.lload_n 2, 1) := by decide +kernel
theorem dX2_drawGains_31 : decode cX2_drawGains 31 = .ok (.ldc2_w 99, 3) := by decide +kernel
theorem dX2_drawGains_34 : decode cX2_drawGains 34 = .ok (.lmul, 1) := by decide +kernel
theorem dX2_drawGains_35 : decode cX2_drawGains 35 = .ok (.ldc2_w 101, 3) := by decide +kernel
theorem dX2_drawGains_38 : decode cX2_drawGains 38 = .ok (.ladd, 1) := by decide +kernel
theorem dX2_drawGains_39 : decode cX2_drawGains 39 = .ok (.ldc2_w 103, 3) := by decide +kernel
theorem dX2_drawGains_42 : decode cX2_drawGains 42 = .ok (.lrem, 1) := by decide +kernel
theorem dX2_drawGains_43 : decode cX2_drawGains 43 = .ok (.lstore_n 2, 1) := by decide +kernel
theorem dX2_drawGains_44 : decode cX2_drawGains 44 = .ok (.aload_n 0, 1) := by decide +kernel
theorem dX2_drawGains_45 : decode cX2_drawGains 45 = .ok (.getfield 23, 3) := by decide +kernel
theorem dX2_drawGains_48 : decode cX2_drawGains 48 = .ok (.iload 5, 2) := by decide +kernel
theorem dX2_drawGains_50 : decode cX2_drawGains 50 = .ok (.aaload, 1) := by decide +kernel
theorem dX2_drawGains_51 : decode cX2_drawGains 51 = .ok (.iload 6, 2) := by decide +kernel
theorem dX2_drawGains_53 : decode cX2_drawGains 53 = .ok (.lload_n 2, 1) := by decide +kernel
theorem dX2_drawGains_54 : decode cX2_drawGains 54 = .ok (.ldc2_w 105, 3) := by decide +kernel
theorem dX2_drawGains_57 : decode cX2_drawGains 57 = .ok (.ldiv, 1) := by decide +kernel
theorem dX2_drawGains_58 : decode cX2_drawGains 58 = .ok (.ldc2_w 107, 3) := by decide +kernel
theorem dX2_drawGains_61 : decode cX2_drawGains 61 = .ok (.lrem, 1) := by decide +kernel
theorem dX2_drawGains_62 : decode cX2_drawGains 62 = .ok (.l2i, 1) := by decide +kernel
theorem dX2_drawGains_63 : decode cX2_drawGains 63 = .ok (.iastore, 1) := by decide +kernel
theorem dX2_drawGains_64 : decode cX2_drawGains 64 = .ok (.iload 4, 2) := by decide +kernel
theorem dX2_drawGains_66 : decode cX2_drawGains 66 = .ok (.aload_n 0, 1) := by decide +kernel
theorem dX2_drawGains_67 : decode cX2_drawGains 67 = .ok (.getfield 23, 3) := by decide +kernel
theorem dX2_drawGains_70 : decode cX2_drawGains 70 = .ok (.iload 5, 2) := by decide +kernel
theorem dX2_drawGains_72 : decode cX2_drawGains 72 = .ok (.aaload, 1) := by decide +kernel
theorem dX2_drawGains_73 : decode cX2_drawGains 73 = .ok (.iload 6, 2) := by decide +kernel
theorem dX2_drawGains_75 : decode cX2_drawGains 75 = .ok (.iaload, 1) := by decide +kernel
theorem dX2_drawGains_76 : decode cX2_drawGains 76 = .ok (.iadd, 1) := by decide +kernel
theorem dX2_drawGains_77 : decode cX2_drawGains 77 = .ok (.istore 4, 2) := by decide +kernel
theorem dX2_drawGains_79 : decode cX2_drawGains 79 = .ok (.iinc 6 1, 3) := by decide +kernel
theorem dX2_drawGains_82 : decode cX2_drawGains 82 = .ok (.goto (-61), 3) := by decide +kernel
theorem dX2_drawGains_85 : decode cX2_drawGains 85 = .ok (.iinc 5 1, 3) := by decide +kernel
theorem dX2_drawGains_88 : decode cX2_drawGains 88 = .ok (.goto (-79), 3) := by decide +kernel
theorem dX2_drawGains_91 : decode cX2_drawGains 91 = .ok (.iload 4, 2) := by decide +kernel
theorem dX2_drawGains_93 : decode cX2_drawGains 93 = .ok (.ireturn, 1) := by decide +kernel
theorem dX2_isFull_0 : decode cX2_isFull 0 = .ok (.aload_n 0, 1) := by decide +kernel
theorem dX2_isFull_1 : decode cX2_isFull 1 = .ok (.getfield 41, 3) := by decide +kernel
theorem dX2_isFull_4 : decode cX2_isFull 4 = .ok (.getfield 64, 3) := by decide +kernel
theorem dX2_isFull_7 : decode cX2_isFull 7 = .ok (.bipush 56, 2) := by decide +kernel
theorem dX2_isFull_9 : decode cX2_isFull 9 = .ok (.if_icmp .le 7, 3) := by decide +kernel
theorem dX2_isFull_12 : decode cX2_isFull 12 = .ok (.iconst 1, 1) := by decide +kernel
theorem dX2_isFull_13 : decode cX2_isFull 13 = .ok (.goto 4, 3) := by decide +kernel
theorem dX2_isFull_16 : decode cX2_isFull 16 = .ok (.iconst 0, 1) := by decide +kernel
theorem dX2_isFull_17 : decode cX2_isFull 17 = .ok (.ireturn, 1) := by decide +kernel
theorem dX2_marginAt_0 : decode cX2_marginAt 0 = .ok (.aload_n 0, 1) := by decide +kernel
theorem dX2_marginAt_1 : decode cX2_marginAt 1 = .ok (.getfield 23, 3) := by decide +kernel
theorem dX2_marginAt_4 : decode cX2_marginAt 4 = .ok (.iload_n 1, 1) := by decide +kernel
theorem dX2_marginAt_5 : decode cX2_marginAt 5 = .ok (.aaload, 1) := by decide +kernel
theorem dX2_marginAt_6 : decode cX2_marginAt 6 = .ok (.iload_n 2, 1) := by decide +kernel
theorem dX2_marginAt_7 : decode cX2_marginAt 7 = .ok (.iaload, 1) := by decide +kernel
theorem dX2_marginAt_8 : decode cX2_marginAt 8 = .ok (.iconst 2, 1) := by decide +kernel
theorem dX2_marginAt_9 : decode cX2_marginAt 9 = .ok (.aload_n 0, 1) := by decide +kernel
theorem dX2_marginAt_10 : decode cX2_marginAt 10 = .ok (.getfield 28, 3) := by decide +kernel
theorem dX2_marginAt_13 : decode cX2_marginAt 13 = .ok (.iload_n 1, 1) := by decide +kernel
theorem dX2_marginAt_14 : decode cX2_marginAt 14 = .ok (.aaload, 1) := by decide +kernel
theorem dX2_marginAt_15 : decode cX2_marginAt 15 = .ok (.getfield 109, 3) := by decide +kernel
theorem dX2_marginAt_18 : decode cX2_marginAt 18 = .ok (.imul, 1) := by decide +kernel
theorem dX2_marginAt_19 : decode cX2_marginAt 19 = .ok (.iadd, 1) := by decide +kernel
theorem dX2_marginAt_20 : decode cX2_marginAt 20 = .ok (.iconst 5, 1) := by decide +kernel
theorem dX2_marginAt_21 : decode cX2_marginAt 21 = .ok (.aload_n 0, 1) := by decide +kernel
theorem dX2_marginAt_22 : decode cX2_marginAt 22 = .ok (.getfield 28, 3) := by decide +kernel
theorem dX2_marginAt_25 : decode cX2_marginAt 25 = .ok (.iload_n 1, 1) := by decide +kernel
theorem dX2_marginAt_26 : decode cX2_marginAt 26 = .ok (.aaload, 1) := by decide +kernel
theorem dX2_marginAt_27 : decode cX2_marginAt 27 = .ok (.getfield 112, 3) := by decide +kernel
theorem dX2_marginAt_30 : decode cX2_marginAt 30 = .ok (.imul, 1) := by decide +kernel
theorem dX2_marginAt_31 : decode cX2_marginAt 31 = .ok (.isub, 1) := by decide +kernel
theorem dX2_marginAt_32 : decode cX2_marginAt 32 = .ok (.ireturn, 1) := by decide +kernel
theorem dX2_sendNext_0 : decode cX2_sendNext 0 = .ok (.aload_n 0, 1) := by decide +kernel
theorem dX2_sendNext_1 : decode cX2_sendNext 1 = .ok (.iload_n 1, 1) := by decide +kernel
theorem dX2_sendNext_2 : decode cX2_sendNext 2 = .ok (.aload_n 0, 1) := by decide +kernel
theorem dX2_sendNext_3 : decode cX2_sendNext 3 = .ok (.getfield 28, 3) := by decide +kernel
theorem dX2_sendNext_6 : decode cX2_sendNext 6 = .ok (.iload_n 1, 1) := by decide +kernel
theorem dX2_sendNext_7 : decode cX2_sendNext 7 = .ok (.aaload, 1) := by decide +kernel
theorem dX2_sendNext_8 : decode cX2_sendNext 8 = .ok (.invokevirtual 115, 3) := by decide +kernel
theorem dX2_sendNext_11 : decode cX2_sendNext 11 = .ok (.invokevirtual 119, 3) := by decide +kernel
theorem dX2_sendNext_14 : decode cX2_sendNext 14 = .ok (.ireturn, 1) := by decide +kernel
theorem dX2_sendLastAgain_0 : decode cX2_sendLastAgain 0 = .ok (.aload_n 0, 1) := by decide +kernel
theorem dX2_sendLastAgain_1 : decode cX2_sendLastAgain 1 = .ok (.iload_n 1, 1) := by decide +kernel
theorem dX2_sendLastAgain_2 : decode cX2_sendLastAgain 2 = .ok (.aload_n 0, 1) := by decide +kernel
theorem dX2_sendLastAgain_3 : decode cX2_sendLastAgain 3 = .ok (.getfield 28, 3) := by decide +kernel
theorem dX2_sendLastAgain_6 : decode cX2_sendLastAgain 6 = .ok (.iload_n 1, 1) := by decide +kernel
theorem dX2_sendLastAgain_7 : decode cX2_sendLastAgain 7 = .ok (.aaload, 1) := by decide +kernel
theorem dX2_sendLastAgain_8 : decode cX2_sendLastAgain 8 = .ok (.getfield 123, 3) := by decide +kernel
theorem dX2_sendLastAgain_11 : decode cX2_sendLastAgain 11 = .ok (.invokevirtual 119, 3) := by decide +kernel
theorem dX2_sendLastAgain_14 : decode cX2_sendLastAgain 14 = .ok (.ireturn, 1) := by decide +kernel
theorem dX2_spread_0 : decode cX2_spread 0 = .ok (.iconst 0, 1) := by decide +kernel
theorem dX2_spread_1 : decode cX2_spread 1 = .ok (.istore_n 3, 1) := by decide +kernel
theorem dX2_spread_2 : decode cX2_spread 2 = .ok (.iconst 0, 1) := by decide +kernel
theorem dX2_spread_3 : decode cX2_spread 3 = .ok (.istore 4, 2) := by decide +kernel
theorem dX2_spread_5 : decode cX2_spread 5 = .ok (.iload 4, 2) := by decide +kernel
theorem dX2_spread_7 : decode cX2_spread 7 = .ok (.aload_n 0, 1) := by decide +kernel
theorem dX2_spread_8 : decode cX2_spread 8 = .ok (.getfield 15, 3) := by decide +kernel
theorem dX2_spread_11 : decode cX2_spread 11 = .ok (.if_icmp .ge 72, 3) := by decide +kernel
theorem dX2_spread_14 : decode cX2_spread 14 = .ok (.aload_n 0, 1) := by decide +kernel
theorem dX2_spread_15 : decode cX2_spread 15 = .ok (.iload_n 1, 1) := by decide +kernel
theorem dX2_spread_16 : decode cX2_spread 16 = .ok (.iload 4, 2) := by decide +kernel
theorem dX2_spread_18 : decode cX2_spread 18 = .ok (.invokevirtual 126, 3) := by decide +kernel
theorem dX2_spread_21 : decode cX2_spread 21 = .ok (.istore 5, 2) := by decide +kernel
theorem dX2_spread_23 : decode cX2_spread 23 = .ok (.iload 5, 2) := by decide +kernel
theorem dX2_spread_25 : decode cX2_spread 25 = .ok (.ifCond .lt 52, 3) := by decide +kernel
theorem dX2_spread_28 : decode cX2_spread 28 = .ok (.aload_n 0, 1) := by decide +kernel
theorem dX2_spread_29 : decode cX2_spread 29 = .ok (.getfield 41, 3) := by decide +kernel
theorem dX2_spread_32 : decode cX2_spread 32 = .ok (.iload_n 1, 1) := by decide +kernel
theorem dX2_spread_33 : decode cX2_spread 33 = .ok (.iload_n 2, 1) := by decide +kernel
theorem dX2_spread_34 : decode cX2_spread 34 = .ok (.iload 4, 2) := by decide +kernel
theorem dX2_spread_36 : decode cX2_spread 36 = .ok (.iload 5, 2) := by decide +kernel
theorem dX2_spread_38 : decode cX2_spread 38 = .ok (.aload_n 0, 1) := by decide +kernel
theorem dX2_spread_39 : decode cX2_spread 39 = .ok (.getfield 61, 3) := by decide +kernel
theorem dX2_spread_42 : decode cX2_spread 42 = .ok (.iconst 1, 1) := by decide +kernel
theorem dX2_spread_43 : decode cX2_spread 43 = .ok (.iadd, 1) := by decide +kernel
theorem dX2_spread_44 : decode cX2_spread 44 = .ok (.aload_n 0, 1) := by decide +kernel
theorem dX2_spread_45 : decode cX2_spread 45 = .ok (.getfield 34, 3) := by decide +kernel
theorem dX2_spread_48 : decode cX2_spread 48 = .ok (.iload 4, 2) := by decide +kernel
theorem dX2_spread_50 : decode cX2_spread 50 = .ok (.aaload, 1) := by decide +kernel
theorem dX2_spread_51 : decode cX2_spread 51 = .ok (.getfield 129, 3) := by decide +kernel
theorem dX2_spread_54 : decode cX2_spread 54 = .ok (.iadd, 1) := by decide +kernel
theorem dX2_spread_55 : decode cX2_spread 55 = .ok (.invokevirtual 132, 3) := by decide +kernel
theorem dX2_spread_58 : decode cX2_spread 58 = .ok (.aload_n 0, 1) := by decide +kernel
theorem dX2_spread_59 : decode cX2_spread 59 = .ok (.getfield 34, 3) := by decide +kernel
theorem dX2_spread_62 : decode cX2_spread 62 = .ok (.iload 4, 2) := by decide +kernel
theorem dX2_spread_64 : decode cX2_spread 64 = .ok (.aaload, 1) := by decide +kernel
theorem dX2_spread_65 : decode cX2_spread 65 = .ok (.dup, 1) := by decide +kernel
theorem dX2_spread_66 : decode cX2_spread 66 = .ok (.getfield 136, 3) := by decide +kernel
theorem dX2_spread_69 : decode cX2_spread 69 = .ok (.iconst 1, 1) := by decide +kernel
theorem dX2_spread_70 : decode cX2_spread 70 = .ok (.iadd, 1) := by decide +kernel
theorem dX2_spread_71 : decode cX2_spread 71 = .ok (.putfield 136, 3) := by decide +kernel
theorem dX2_spread_74 : decode cX2_spread 74 = .ok (.iinc 3 1, 3) := by decide +kernel
theorem dX2_spread_77 : decode cX2_spread 77 = .ok (.iinc 4 1, 3) := by decide +kernel
theorem dX2_spread_80 : decode cX2_spread 80 = .ok (.goto (-75), 3) := by decide +kernel
theorem dX2_spread_83 : decode cX2_spread 83 = .ok (.iload_n 3, 1) := by decide +kernel
theorem dX2_spread_84 : decode cX2_spread 84 = .ok (.ireturn, 1) := by decide +kernel
theorem dX2_passTicks_0 : decode cX2_passTicks 0 = .ok (.iconst 0, 1) := by decide +kernel
theorem dX2_passTicks_1 : decode cX2_passTicks 1 = .ok (.istore_n 2, 1) := by decide +kernel
theorem dX2_passTicks_2 : decode cX2_passTicks 2 = .ok (.iconst 0, 1) := by decide +kernel
theorem dX2_passTicks_3 : decode cX2_passTicks 3 = .ok (.istore_n 3, 1) := by decide +kernel
theorem dX2_passTicks_4 : decode cX2_passTicks 4 = .ok (.iload_n 3, 1) := by decide +kernel
theorem dX2_passTicks_5 : decode cX2_passTicks 5 = .ok (.iload_n 1, 1) := by decide +kernel
theorem dX2_passTicks_6 : decode cX2_passTicks 6 = .ok (.if_icmp .ge 45, 3) := by decide +kernel
theorem dX2_passTicks_9 : decode cX2_passTicks 9 = .ok (.aload_n 0, 1) := by decide +kernel
theorem dX2_passTicks_10 : decode cX2_passTicks 10 = .ok (.dup, 1) := by decide +kernel
theorem dX2_passTicks_11 : decode cX2_passTicks 11 = .ok (.getfield 61, 3) := by decide +kernel
theorem dX2_passTicks_14 : decode cX2_passTicks 14 = .ok (.iconst 1, 1) := by decide +kernel
theorem dX2_passTicks_15 : decode cX2_passTicks 15 = .ok (.iadd, 1) := by decide +kernel
theorem dX2_passTicks_16 : decode cX2_passTicks 16 = .ok (.putfield 61, 3) := by decide +kernel
theorem dX2_passTicks_19 : decode cX2_passTicks 19 = .ok (.aload_n 0, 1) := by decide +kernel
theorem dX2_passTicks_20 : decode cX2_passTicks 20 = .ok (.getfield 61, 3) := by decide +kernel
theorem dX2_passTicks_23 : decode cX2_passTicks 23 = .ok (.bipush 60, 2) := by decide +kernel
theorem dX2_passTicks_25 : decode cX2_passTicks 25 = .ok (.irem, 1) := by decide +kernel
theorem dX2_passTicks_26 : decode cX2_passTicks 26 = .ok (.iconst 1, 1) := by decide +kernel
theorem dX2_passTicks_27 : decode cX2_passTicks 27 = .ok (.if_icmp .ne 7, 3) := by decide +kernel
theorem dX2_passTicks_30 : decode cX2_passTicks 30 = .ok (.aload_n 0, 1) := by decide +kernel
theorem dX2_passTicks_31 : decode cX2_passTicks 31 = .ok (.invokevirtual 139, 3) := by decide +kernel
theorem dX2_passTicks_34 : decode cX2_passTicks 34 = .ok (.aload_n 0, 1) := by decide +kernel
theorem dX2_passTicks_35 : decode cX2_passTicks 35 = .ok (.invokevirtual 142, 3) := by decide +kernel
theorem dX2_passTicks_38 : decode cX2_passTicks 38 = .ok (.iload_n 2, 1) := by decide +kernel
theorem dX2_passTicks_39 : decode cX2_passTicks 39 = .ok (.aload_n 0, 1) := by decide +kernel
theorem dX2_passTicks_40 : decode cX2_passTicks 40 = .ok (.invokevirtual 145, 3) := by decide +kernel
theorem dX2_passTicks_43 : decode cX2_passTicks 43 = .ok (.iadd, 1) := by decide +kernel
theorem dX2_passTicks_44 : decode cX2_passTicks 44 = .ok (.istore_n 2, 1) := by decide +kernel
theorem dX2_passTicks_45 : decode cX2_passTicks 45 = .ok (.iinc 3 1, 3) := by decide +kernel
theorem dX2_passTicks_48 : decode cX2_passTicks 48 = .ok (.goto (-44), 3) := by decide +kernel
theorem dX2_passTicks_51 : decode cX2_passTicks 51 = .ok (.iload_n 2, 1) := by decide +kernel
theorem dX2_passTicks_52 : decode cX2_passTicks 52 = .ok (.ireturn, 1) := by decide +kernel
theorem dX2_refillBudgets_0 : decode cX2_refillBudgets 0 = .ok (.iconst 0, 1) := by decide +kernel
theorem dX2_refillBudgets_1 : decode cX2_refillBudgets 1 = .ok (.istore_n 1, 1) := by decide +kernel
theorem dX2_refillBudgets_2 : decode cX2_refillBudgets 2 = .ok (.iload_n 1, 1) := by decide +kernel
theorem dX2_refillBudgets_3 : decode cX2_refillBudgets 3 = .ok (.iconst 4, 1) := by decide +kernel
theorem dX2_refillBudgets_4 : decode cX2_refillBudgets 4 = .ok (.if_icmp .ge 19, 3) := by decide +kernel
theorem dX2_refillBudgets_7 : decode cX2_refillBudgets 7 = .ok (.aload_n 0, 1) := by decide +kernel
theorem dX2_refillBudgets_8 : decode cX2_refillBudgets 8 = .ok (.getfield 34, 3) := by decide +kernel
theorem dX2_refillBudgets_11 : decode cX2_refillBudgets 11 = .ok (.iload_n 1, 1) := by decide +kernel
theorem dX2_refillBudgets_12 : decode cX2_refillBudgets 12 = .ok (.aaload, 1) := by decide +kernel
theorem dX2_refillBudgets_13 : decode cX2_refillBudgets 13 = .ok (.iconst 0, 1) := by decide +kernel
theorem dX2_refillBudgets_14 : decode cX2_refillBudgets 14 = .ok (.putfield 148, 3) := by decide +kernel
theorem dX2_refillBudgets_17 : decode cX2_refillBudgets 17 = .ok (.iinc 1 1, 3) := by decide +kernel
theorem dX2_refillBudgets_20 : decode cX2_refillBudgets 20 = .ok (.goto (-18), 3) := by decide +kernel
theorem dX2_refillBudgets_23 : decode cX2_refillBudgets 23 = .ok (.return_, 1) := by decide +kernel
theorem dX2_bringCopies_0 : decode cX2_bringCopies 0 = .ok (.iconst 0, 1) := by decide +kernel
theorem dX2_bringCopies_1 : decode cX2_bringCopies 1 = .ok (.istore_n 1, 1) := by decide +kernel
theorem dX2_bringCopies_2 : decode cX2_bringCopies 2 = .ok (.iconst 0, 1) := by decide +kernel
theorem dX2_bringCopies_3 : decode cX2_bringCopies 3 = .ok (.istore_n 2, 1) := by decide +kernel
theorem dX2_bringCopies_4 : decode cX2_bringCopies 4 = .ok (.iload_n 2, 1) := by decide +kernel
theorem dX2_bringCopies_5 : decode cX2_bringCopies 5 = .ok (.aload_n 0, 1) := by decide +kernel
theorem dX2_bringCopies_6 : decode cX2_bringCopies 6 = .ok (.getfield 41, 3) := by decide +kernel
theorem dX2_bringCopies_9 : decode cX2_bringCopies 9 = .ok (.getfield 64, 3) := by decide +kernel
theorem dX2_bringCopies_12 : decode cX2_bringCopies 12 = .ok (.if_icmp .ge 45, 3) := by decide +kernel
theorem dX2_bringCopies_15 : decode cX2_bringCopies 15 = .ok (.aload_n 0, 1) := by decide +kernel
theorem dX2_bringCopies_16 : decode cX2_bringCopies 16 = .ok (.getfield 41, 3) := by decide +kernel
theorem dX2_bringCopies_19 : decode cX2_bringCopies 19 = .ok (.getfield 151, 3) := by decide +kernel
theorem dX2_bringCopies_22 : decode cX2_bringCopies 22 = .ok (.iload_n 2, 1) := by decide +kernel
theorem dX2_bringCopies_23 : decode cX2_bringCopies 23 = .ok (.iaload, 1) := by decide +kernel
theorem dX2_bringCopies_24 : decode cX2_bringCopies 24 = .ok (.aload_n 0, 1) := by decide +kernel
theorem dX2_bringCopies_25 : decode cX2_bringCopies 25 = .ok (.getfield 61, 3) := by decide +kernel
theorem dX2_bringCopies_28 : decode cX2_bringCopies 28 = .ok (.if_icmp .ne 11, 3) := by decide +kernel
theorem dX2_bringCopies_31 : decode cX2_bringCopies 31 = .ok (.aload_n 0, 1) := by decide +kernel
theorem dX2_bringCopies_32 : decode cX2_bringCopies 32 = .ok (.iload_n 2, 1) := by decide +kernel
theorem dX2_bringCopies_33 : decode cX2_bringCopies 33 = .ok (.invokevirtual 155, 3) := by decide +kernel
theorem dX2_bringCopies_36 : decode cX2_bringCopies 36 = .ok (.goto 15, 3) := by decide +kernel
theorem dX2_bringCopies_39 : decode cX2_bringCopies 39 = .ok (.aload_n 0, 1) := by decide +kernel
theorem dX2_bringCopies_40 : decode cX2_bringCopies 40 = .ok (.getfield 41, 3) := by decide +kernel
theorem dX2_bringCopies_43 : decode cX2_bringCopies 43 = .ok (.iload_n 2, 1) := by decide +kernel
theorem dX2_bringCopies_44 : decode cX2_bringCopies 44 = .ok (.iload_n 1, 1) := by decide +kernel
theorem dX2_bringCopies_45 : decode cX2_bringCopies 45 = .ok (.invokevirtual 159, 3) := by decide +kernel
theorem dX2_bringCopies_48 : decode cX2_bringCopies 48 = .ok (.iinc 1 1, 3) := by decide +kernel
theorem dX2_bringCopies_51 : decode cX2_bringCopies 51 = .ok (.iinc 2 1, 3) := by decide +kernel
theorem dX2_bringCopies_54 : decode cX2_bringCopies 54 = .ok (.goto (-50), 3) := by decide +kernel
theorem dX2_bringCopies_57 : decode cX2_bringCopies 57 = .ok (.aload_n 0, 1) := by decide +kernel
theorem dX2_bringCopies_58 : decode cX2_bringCopies 58 = .ok (.getfield 41, 3) := by decide +kernel
theorem dX2_bringCopies_61 : decode cX2_bringCopies 61 = .ok (.iload_n 1, 1) := by decide +kernel
theorem dX2_bringCopies_62 : decode cX2_bringCopies 62 = .ok (.putfield 64, 3) := by decide +kernel
theorem dX2_bringCopies_65 : decode cX2_bringCopies 65 = .ok (.return_, 1) := by decide +kernel
theorem dX2_bring_0 : decode cX2_bring 0 = .ok (.aload_n 0, 1) := by decide +kernel
theorem dX2_bring_1 : decode cX2_bring 1 = .ok (.getfield 41, 3) := by decide +kernel
theorem dX2_bring_4 : decode cX2_bring 4 = .ok (.getfield 163, 3) := by decide +kernel
theorem dX2_bring_7 : decode cX2_bring 7 = .ok (.iload_n 1, 1) := by decide +kernel
theorem dX2_bring_8 : decode cX2_bring 8 = .ok (.iaload, 1) := by decide +kernel
theorem dX2_bring_9 : decode cX2_bring 9 = .ok (.istore_n 2, 1) := by decide +kernel
theorem dX2_bring_10 : decode cX2_bring 10 = .ok (.aload_n 0, 1) := by decide +kernel
theorem dX2_bring_11 : decode cX2_bring 11 = .ok (.getfield 41, 3) := by decide +kernel
theorem dX2_bring_14 : decode cX2_bring 14 = .ok (.getfield 166, 3) := by decide +kernel
theorem dX2_bring_17 : decode cX2_bring 17 = .ok (.iload_n 1, 1) := by decide +kernel
theorem dX2_bring_18 : decode cX2_bring 18 = .ok (.iaload, 1) := by decide +kernel
theorem dX2_bring_19 : decode cX2_bring 19 = .ok (.istore_n 3, 1) := by decide +kernel
theorem dX2_bring_20 : decode cX2_bring 20 = .ok (.aload_n 0, 1) := by decide +kernel
theorem dX2_bring_21 : decode cX2_bring 21 = .ok (.getfield 48, 3) := by decide +kernel
theorem dX2_bring_24 : decode cX2_bring 24 = .ok (.iload_n 2, 1) := by decide +kernel
theorem dX2_bring_25 : decode cX2_bring 25 = .ok (.iload_n 3, 1) := by decide +kernel
theorem dX2_bring_26 : decode cX2_bring 26 = .ok (.invokevirtual 169, 3) := by decide +kernel
theorem dX2_bring_29 : decode cX2_bring 29 = .ok (.istore 4, 2) := by decide +kernel
theorem dX2_bring_31 : decode cX2_bring 31 = .ok (.iload 4, 2) := by decide +kernel
theorem dX2_bring_33 : decode cX2_bring 33 = .ok (.iconst (-1), 1) := by decide +kernel
theorem dX2_bring_34 : decode cX2_bring 34 = .ok (.if_icmp .eq 43, 3) := by decide +kernel
theorem dX2_bring_37 : decode cX2_bring 37 = .ok (.aload_n 0, 1) := by decide +kernel
theorem dX2_bring_38 : decode cX2_bring 38 = .ok (.getfield 48, 3) := by decide +kernel
theorem dX2_bring_41 : decode cX2_bring 41 = .ok (.iload 4, 2) := by decide +kernel
theorem dX2_bring_43 : decode cX2_bring 43 = .ok (.aload_n 0, 1) := by decide +kernel
theorem dX2_bring_44 : decode cX2_bring 44 = .ok (.getfield 41, 3) := by decide +kernel
theorem dX2_bring_47 : decode cX2_bring 47 = .ok (.getfield 172, 3) := by decide +kernel
theorem dX2_bring_50 : decode cX2_bring 50 = .ok (.iload_n 1, 1) := by decide +kernel
theorem dX2_bring_51 : decode cX2_bring 51 = .ok (.iaload, 1) := by decide +kernel
theorem dX2_bring_52 : decode cX2_bring 52 = .ok (.aload_n 0, 1) := by decide +kernel
theorem dX2_bring_53 : decode cX2_bring 53 = .ok (.getfield 41, 3) := by decide +kernel
theorem dX2_bring_56 : decode cX2_bring 56 = .ok (.getfield 175, 3) := by decide +kernel
theorem dX2_bring_59 : decode cX2_bring 59 = .ok (.iload_n 1, 1) := by decide +kernel
theorem dX2_bring_60 : decode cX2_bring 60 = .ok (.iaload, 1) := by decide +kernel
theorem dX2_bring_61 : decode cX2_bring 61 = .ok (.invokevirtual 178, 3) := by decide +kernel
theorem dX2_bring_64 : decode cX2_bring 64 = .ok (.aload_n 0, 1) := by decide +kernel
theorem dX2_bring_65 : decode cX2_bring 65 = .ok (.dup, 1) := by decide +kernel
theorem dX2_bring_66 : decode cX2_bring 66 = .ok (.getfield 83, 3) := by decide +kernel
theorem dX2_bring_69 : decode cX2_bring 69 = .ok (.iconst 1, 1) := by decide +kernel
theorem dX2_bring_70 : decode cX2_bring 70 = .ok (.iadd, 1) := by decide +kernel
theorem dX2_bring_71 : decode cX2_bring 71 = .ok (.putfield 83, 3) := by decide +kernel
theorem dX2_bring_74 : decode cX2_bring 74 = .ok (.goto 81, 3) := by decide +kernel
theorem dX2_bring_77 : decode cX2_bring 77 = .ok (.iload_n 3, 1) := by decide +kernel
theorem dX2_bring_78 : decode cX2_bring 78 = .ok (.iconst (-1), 1) := by decide +kernel
theorem dX2_bring_79 : decode cX2_bring 79 = .ok (.if_icmp .eq 16, 3) := by decide +kernel
theorem dX2_bring_82 : decode cX2_bring 82 = .ok (.aload_n 0, 1) := by decide +kernel
theorem dX2_bring_83 : decode cX2_bring 83 = .ok (.getfield 28, 3) := by decide +kernel
theorem dX2_bring_86 : decode cX2_bring 86 = .ok (.iload_n 2, 1) := by decide +kernel
theorem dX2_bring_87 : decode cX2_bring 87 = .ok (.aaload, 1) := by decide +kernel
theorem dX2_bring_88 : decode cX2_bring 88 = .ok (.iload_n 3, 1) := by decide +kernel
theorem dX2_bring_89 : decode cX2_bring 89 = .ok (.invokevirtual 182, 3) := by decide +kernel
theorem dX2_bring_92 : decode cX2_bring 92 = .ok (.ifCond .eq 53, 3) := by decide +kernel
theorem dX2_bring_95 : decode cX2_bring 95 = .ok (.aload_n 0, 1) := by decide +kernel
theorem dX2_bring_96 : decode cX2_bring 96 = .ok (.getfield 48, 3) := by decide +kernel
theorem dX2_bring_99 : decode cX2_bring 99 = .ok (.iload_n 2, 1) := by decide +kernel
theorem dX2_bring_100 : decode cX2_bring 100 = .ok (.iload_n 3, 1) := by decide +kernel
theorem dX2_bring_101 : decode cX2_bring 101 = .ok (.aload_n 0, 1) := by decide +kernel
theorem dX2_bring_102 : decode cX2_bring 102 = .ok (.getfield 61, 3) := by decide +kernel
theorem dX2_bring_105 : decode cX2_bring 105 = .ok (.invokevirtual 186, 3) := by decide +kernel
theorem dX2_bring_108 : decode cX2_bring 108 = .ok (.aload_n 0, 1) := by decide +kernel
theorem dX2_bring_109 : decode cX2_bring 109 = .ok (.getfield 48, 3) := by decide +kernel
theorem dX2_bring_112 : decode cX2_bring 112 = .ok (.aload_n 0, 1) := by decide +kernel
theorem dX2_bring_113 : decode cX2_bring 113 = .ok (.getfield 48, 3) := by decide +kernel
theorem dX2_bring_116 : decode cX2_bring 116 = .ok (.getfield 67, 3) := by decide +kernel
theorem dX2_bring_119 : decode cX2_bring 119 = .ok (.iconst 1, 1) := by decide +kernel
theorem dX2_bring_120 : decode cX2_bring 120 = .ok (.isub, 1) := by decide +kernel
theorem dX2_bring_121 : decode cX2_bring 121 = .ok (.aload_n 0, 1) := by decide +kernel
theorem dX2_bring_122 : decode cX2_bring 122 = .ok (.getfield 41, 3) := by decide +kernel
theorem dX2_bring_125 : decode cX2_bring 125 = .ok (.getfield 172, 3) := by decide +kernel
theorem dX2_bring_128 : decode cX2_bring 128 = .ok (.iload_n 1, 1) := by decide +kernel
theorem dX2_bring_129 : decode cX2_bring 129 = .ok (.iaload, 1) := by decide +kernel
theorem dX2_bring_130 : decode cX2_bring 130 = .ok (.aload_n 0, 1) := by decide +kernel
theorem dX2_bring_131 : decode cX2_bring 131 = .ok (.getfield 41, 3) := by decide +kernel
theorem dX2_bring_134 : decode cX2_bring 134 = .ok (.getfield 175, 3) := by decide +kernel
theorem dX2_bring_137 : decode cX2_bring 137 = .ok (.iload_n 1, 1) := by decide +kernel
theorem dX2_bring_138 : decode cX2_bring 138 = .ok (.iaload, 1) := by decide +kernel
theorem dX2_bring_139 : decode cX2_bring 139 = .ok (.invokevirtual 178, 3) := by decide +kernel
theorem dX2_bring_142 : decode cX2_bring 142 = .ok (.goto 13, 3) := by decide +kernel
theorem dX2_bring_145 : decode cX2_bring 145 = .ok (.aload_n 0, 1) := by decide +kernel
theorem dX2_bring_146 : decode cX2_bring 146 = .ok (.dup, 1) := by decide +kernel
theorem dX2_bring_147 : decode cX2_bring 147 = .ok (.getfield 74, 3) := by decide +kernel
theorem dX2_bring_150 : decode cX2_bring 150 = .ok (.iconst 1, 1) := by decide +kernel
theorem dX2_bring_151 : decode cX2_bring 151 = .ok (.iadd, 1) := by decide +kernel
theorem dX2_bring_152 : decode cX2_bring 152 = .ok (.putfield 74, 3) := by decide +kernel
theorem dX2_bring_155 : decode cX2_bring 155 = .ok (.return_, 1) := by decide +kernel
theorem dX2_closeWindows_0 : decode cX2_closeWindows 0 = .ok (.iconst 0, 1) := by decide +kernel
theorem dX2_closeWindows_1 : decode cX2_closeWindows 1 = .ok (.istore_n 1, 1) := by decide +kernel
theorem dX2_closeWindows_2 : decode cX2_closeWindows 2 = .ok (.iconst 0, 1) := by decide +kernel
theorem dX2_closeWindows_3 : decode cX2_closeWindows 3 = .ok (.istore_n 2, 1) := by decide +kernel
theorem dX2_closeWindows_4 : decode cX2_closeWindows 4 = .ok (.iload_n 1, 1) := by decide +kernel
theorem dX2_closeWindows_5 : decode cX2_closeWindows 5 = .ok (.aload_n 0, 1) := by decide +kernel
theorem dX2_closeWindows_6 : decode cX2_closeWindows 6 = .ok (.getfield 48, 3) := by decide +kernel
theorem dX2_closeWindows_9 : decode cX2_closeWindows 9 = .ok (.getfield 67, 3) := by decide +kernel
theorem dX2_closeWindows_12 : decode cX2_closeWindows 12 = .ok (.if_icmp .ge 105, 3) := by decide +kernel
theorem dX2_closeWindows_15 : decode cX2_closeWindows 15 = .ok (.aload_n 0, 1) := by decide +kernel
theorem dX2_closeWindows_16 : decode cX2_closeWindows 16 = .ok (.getfield 48, 3) := by decide +kernel
theorem dX2_closeWindows_19 : decode cX2_closeWindows 19 = .ok (.getfield 189, 3) := by decide +kernel
theorem dX2_closeWindows_22 : decode cX2_closeWindows 22 = .ok (.iload_n 1, 1) := by decide +kernel
theorem dX2_closeWindows_23 : decode cX2_closeWindows 23 = .ok (.iaload, 1) := by decide +kernel
theorem dX2_closeWindows_24 : decode cX2_closeWindows 24 = .ok (.aload_n 0, 1) := by decide +kernel
theorem dX2_closeWindows_25 : decode cX2_closeWindows 25 = .ok (.getfield 18, 3) := by decide +kernel
theorem dX2_closeWindows_28 : decode cX2_closeWindows 28 = .ok (.iadd, 1) := by decide +kernel
theorem dX2_closeWindows_29 : decode cX2_closeWindows 29 = .ok (.aload_n 0, 1) := by decide +kernel
theorem dX2_closeWindows_30 : decode cX2_closeWindows 30 = .ok (.getfield 61, 3) := by decide +kernel
theorem dX2_closeWindows_33 : decode cX2_closeWindows 33 = .ok (.if_icmp .gt 84, 3) := by decide +kernel
theorem dX2_closeWindows_36 : decode cX2_closeWindows 36 = .ok (.aload_n 0, 1) := by decide +kernel
theorem dX2_closeWindows_37 : decode cX2_closeWindows 37 = .ok (.getfield 28, 3) := by decide +kernel
theorem dX2_closeWindows_40 : decode cX2_closeWindows 40 = .ok (.aload_n 0, 1) := by decide +kernel
theorem dX2_closeWindows_41 : decode cX2_closeWindows 41 = .ok (.getfield 48, 3) := by decide +kernel
theorem dX2_closeWindows_44 : decode cX2_closeWindows 44 = .ok (.getfield 192, 3) := by decide +kernel
theorem dX2_closeWindows_47 : decode cX2_closeWindows 47 = .ok (.iload_n 1, 1) := by decide +kernel
theorem dX2_closeWindows_48 : decode cX2_closeWindows 48 = .ok (.iaload, 1) := by decide +kernel
theorem dX2_closeWindows_49 : decode cX2_closeWindows 49 = .ok (.aaload, 1) := by decide +kernel
theorem dX2_closeWindows_50 : decode cX2_closeWindows 50 = .ok (.astore_n 3, 1) := by decide +kernel
theorem dX2_closeWindows_51 : decode cX2_closeWindows 51 = .ok (.aload_n 0, 1) := by decide +kernel
theorem dX2_closeWindows_52 : decode cX2_closeWindows 52 = .ok (.getfield 48, 3) := by decide +kernel
theorem dX2_closeWindows_55 : decode cX2_closeWindows 55 = .ok (.getfield 193, 3) := by decide +kernel
theorem dX2_closeWindows_58 : decode cX2_closeWindows 58 = .ok (.iload_n 1, 1) := by decide +kernel
theorem dX2_closeWindows_59 : decode cX2_closeWindows 59 = .ok (.iaload, 1) := by decide +kernel
theorem dX2_closeWindows_60 : decode cX2_closeWindows 60 = .ok (.istore 4, 2) := by decide +kernel
theorem dX2_closeWindows_62 : decode cX2_closeWindows 62 = .ok (.iload 4, 2) := by decide +kernel
theorem dX2_closeWindows_64 : decode cX2_closeWindows 64 = .ok (.iconst (-1), 1) := by decide +kernel
theorem dX2_closeWindows_65 : decode cX2_closeWindows 65 = .ok (.if_icmp .ne 15, 3) := by decide +kernel
theorem dX2_closeWindows_68 : decode cX2_closeWindows 68 = .ok (.aload_n 0, 1) := by decide +kernel
theorem dX2_closeWindows_69 : decode cX2_closeWindows 69 = .ok (.iload_n 1, 1) := by decide +kernel
theorem dX2_closeWindows_70 : decode cX2_closeWindows 70 = .ok (.aload_n 3, 1) := by decide +kernel
theorem dX2_closeWindows_71 : decode cX2_closeWindows 71 = .ok (.invokevirtual 194, 3) := by decide +kernel
theorem dX2_closeWindows_74 : decode cX2_closeWindows 74 = .ok (.iinc 2 1, 3) := by decide +kernel
theorem dX2_closeWindows_77 : decode cX2_closeWindows 77 = .ok (.goto 34, 3) := by decide +kernel
theorem dX2_closeWindows_80 : decode cX2_closeWindows 80 = .ok (.aload_n 3, 1) := by decide +kernel
theorem dX2_closeWindows_81 : decode cX2_closeWindows 81 = .ok (.iload 4, 2) := by decide +kernel
theorem dX2_closeWindows_83 : decode cX2_closeWindows 83 = .ok (.invokevirtual 182, 3) := by decide +kernel
theorem dX2_closeWindows_86 : decode cX2_closeWindows 86 = .ok (.ifCond .eq 15, 3) := by decide +kernel
theorem dX2_closeWindows_89 : decode cX2_closeWindows 89 = .ok (.aload_n 0, 1) := by decide +kernel
theorem dX2_closeWindows_90 : decode cX2_closeWindows 90 = .ok (.iload_n 1, 1) := by decide +kernel
theorem dX2_closeWindows_91 : decode cX2_closeWindows 91 = .ok (.aload_n 3, 1) := by decide +kernel
theorem dX2_closeWindows_92 : decode cX2_closeWindows 92 = .ok (.invokevirtual 198, 3) := by decide +kernel
theorem dX2_closeWindows_95 : decode cX2_closeWindows 95 = .ok (.iinc 2 1, 3) := by decide +kernel
theorem dX2_closeWindows_98 : decode cX2_closeWindows 98 = .ok (.goto 13, 3) := by decide +kernel
theorem dX2_closeWindows_101 : decode cX2_closeWindows 101 = .ok (.aload_n 0, 1) := by decide +kernel
theorem dX2_closeWindows_102 : decode cX2_closeWindows 102 = .ok (.dup, 1) := by decide +kernel
theorem dX2_closeWindows_103 : decode cX2_closeWindows 103 = .ok (.getfield 74, 3) := by decide +kernel
theorem dX2_closeWindows_106 : decode cX2_closeWindows 106 = .ok (.iconst 1, 1) := by decide +kernel
theorem dX2_closeWindows_107 : decode cX2_closeWindows 107 = .ok (.iadd, 1) := by decide +kernel
theorem dX2_closeWindows_108 : decode cX2_closeWindows 108 = .ok (.putfield 74, 3) := by decide +kernel
theorem dX2_closeWindows_111 : decode cX2_closeWindows 111 = .ok (.iinc 1 1, 3) := by decide +kernel
theorem dX2_closeWindows_114 : decode cX2_closeWindows 114 = .ok (.goto (-110), 3) := by decide +kernel
theorem dX2_closeWindows_117 : decode cX2_closeWindows 117 = .ok (.aload_n 0, 1) := by decide +kernel
theorem dX2_closeWindows_118 : decode cX2_closeWindows 118 = .ok (.getfield 48, 3) := by decide +kernel
theorem dX2_closeWindows_121 : decode cX2_closeWindows 121 = .ok (.iload_n 1, 1) := by decide +kernel
theorem dX2_closeWindows_122 : decode cX2_closeWindows 122 = .ok (.invokevirtual 201, 3) := by decide +kernel
theorem dX2_closeWindows_125 : decode cX2_closeWindows 125 = .ok (.iload_n 2, 1) := by decide +kernel
theorem dX2_closeWindows_126 : decode cX2_closeWindows 126 = .ok (.ireturn, 1) := by decide +kernel
theorem dX2_takeJoining_0 : decode cX2_takeJoining 0 = .ok (.aload_n 0, 1) := by decide +kernel
theorem dX2_takeJoining_1 : decode cX2_takeJoining 1 = .ok (.dup, 1) := by decide +kernel
theorem dX2_takeJoining_2 : decode cX2_takeJoining 2 = .ok (.getfield 71, 3) := by decide +kernel
theorem dX2_takeJoining_5 : decode cX2_takeJoining 5 = .ok (.iconst 1, 1) := by decide +kernel
theorem dX2_takeJoining_6 : decode cX2_takeJoining 6 = .ok (.iadd, 1) := by decide +kernel
theorem dX2_takeJoining_7 : decode cX2_takeJoining 7 = .ok (.putfield 71, 3) := by decide +kernel
theorem dX2_takeJoining_10 : decode cX2_takeJoining 10 = .ok (.aload_n 2, 1) := by decide +kernel
theorem dX2_takeJoining_11 : decode cX2_takeJoining 11 = .ok (.bipush 63, 2) := by decide +kernel
theorem dX2_takeJoining_13 : decode cX2_takeJoining 13 = .ok (.putfield 204, 3) := by decide +kernel
theorem dX2_takeJoining_16 : decode cX2_takeJoining 16 = .ok (.aload_n 2, 1) := by decide +kernel
theorem dX2_takeJoining_17 : decode cX2_takeJoining 17 = .ok (.iconst 0, 1) := by decide +kernel
theorem dX2_takeJoining_18 : decode cX2_takeJoining 18 = .ok (.putfield 207, 3) := by decide +kernel
theorem dX2_takeJoining_21 : decode cX2_takeJoining 21 = .ok (.aload_n 0, 1) := by decide +kernel
theorem dX2_takeJoining_22 : decode cX2_takeJoining 22 = .ok (.iload_n 1, 1) := by decide +kernel
theorem dX2_takeJoining_23 : decode cX2_takeJoining 23 = .ok (.aload_n 2, 1) := by decide +kernel
theorem dX2_takeJoining_24 : decode cX2_takeJoining 24 = .ok (.invokevirtual 210, 3) := by decide +kernel
theorem dX2_takeJoining_27 : decode cX2_takeJoining 27 = .ok (.ifCond .eq 13, 3) := by decide +kernel
theorem dX2_takeJoining_30 : decode cX2_takeJoining 30 = .ok (.aload_n 2, 1) := by decide +kernel
theorem dX2_takeJoining_31 : decode cX2_takeJoining 31 = .ok (.iconst 1, 1) := by decide +kernel
theorem dX2_takeJoining_32 : decode cX2_takeJoining 32 = .ok (.putfield 214, 3) := by decide +kernel
theorem dX2_takeJoining_35 : decode cX2_takeJoining 35 = .ok (.aload_n 2, 1) := by decide +kernel
theorem dX2_takeJoining_36 : decode cX2_takeJoining 36 = .ok (.iconst 0, 1) := by decide +kernel
theorem dX2_takeJoining_37 : decode cX2_takeJoining 37 = .ok (.putfield 217, 3) := by decide +kernel
theorem dX2_takeJoining_40 : decode cX2_takeJoining 40 = .ok (.return_, 1) := by decide +kernel
theorem dX2_takeLetter_0 : decode cX2_takeLetter 0 = .ok (.aload_n 0, 1) := by decide +kernel
theorem dX2_takeLetter_1 : decode cX2_takeLetter 1 = .ok (.getfield 48, 3) := by decide +kernel
theorem dX2_takeLetter_4 : decode cX2_takeLetter 4 = .ok (.iload_n 1, 1) := by decide +kernel
theorem dX2_takeLetter_5 : decode cX2_takeLetter 5 = .ok (.invokevirtual 220, 3) := by decide +kernel
theorem dX2_takeLetter_8 : decode cX2_takeLetter 8 = .ok (.istore_n 3, 1) := by decide +kernel
theorem dX2_takeLetter_9 : decode cX2_takeLetter 9 = .ok (.aload_n 0, 1) := by decide +kernel
theorem dX2_takeLetter_10 : decode cX2_takeLetter 10 = .ok (.dup, 1) := by decide +kernel
theorem dX2_takeLetter_11 : decode cX2_takeLetter 11 = .ok (.getfield 68, 3) := by decide +kernel
theorem dX2_takeLetter_14 : decode cX2_takeLetter 14 = .ok (.iconst 1, 1) := by decide +kernel
theorem dX2_takeLetter_15 : decode cX2_takeLetter 15 = .ok (.iadd, 1) := by decide +kernel
theorem dX2_takeLetter_16 : decode cX2_takeLetter 16 = .ok (.putfield 68, 3) := by decide +kernel
theorem dX2_takeLetter_19 : decode cX2_takeLetter 19 = .ok (.aload_n 0, 1) := by decide +kernel
theorem dX2_takeLetter_20 : decode cX2_takeLetter 20 = .ok (.getfield 34, 3) := by decide +kernel
theorem dX2_takeLetter_23 : decode cX2_takeLetter 23 = .ok (.iload_n 3, 1) := by decide +kernel
theorem dX2_takeLetter_24 : decode cX2_takeLetter 24 = .ok (.aaload, 1) := by decide +kernel
theorem dX2_takeLetter_25 : decode cX2_takeLetter 25 = .ok (.dup, 1) := by decide +kernel
theorem dX2_takeLetter_26 : decode cX2_takeLetter 26 = .ok (.getfield 224, 3) := by decide +kernel
theorem dX2_takeLetter_29 : decode cX2_takeLetter 29 = .ok (.iconst 1, 1) := by decide +kernel
theorem dX2_takeLetter_30 : decode cX2_takeLetter 30 = .ok (.iadd, 1) := by decide +kernel
theorem dX2_takeLetter_31 : decode cX2_takeLetter 31 = .ok (.putfield 224, 3) := by decide +kernel
theorem dX2_takeLetter_34 : decode cX2_takeLetter 34 = .ok (.aload_n 2, 1) := by decide +kernel
theorem dX2_takeLetter_35 : decode cX2_takeLetter 35 = .ok (.aload_n 0, 1) := by decide +kernel
theorem dX2_takeLetter_36 : decode cX2_takeLetter 36 = .ok (.getfield 48, 3) := by decide +kernel
theorem dX2_takeLetter_39 : decode cX2_takeLetter 39 = .ok (.getfield 193, 3) := by decide +kernel
theorem dX2_takeLetter_42 : decode cX2_takeLetter 42 = .ok (.iload_n 1, 1) := by decide +kernel
theorem dX2_takeLetter_43 : decode cX2_takeLetter 43 = .ok (.iaload, 1) := by decide +kernel
theorem dX2_takeLetter_44 : decode cX2_takeLetter 44 = .ok (.aload_n 0, 1) := by decide +kernel
theorem dX2_takeLetter_45 : decode cX2_takeLetter 45 = .ok (.getfield 48, 3) := by decide +kernel
theorem dX2_takeLetter_48 : decode cX2_takeLetter 48 = .ok (.iload_n 1, 1) := by decide +kernel
theorem dX2_takeLetter_49 : decode cX2_takeLetter 49 = .ok (.iload_n 3, 1) := by decide +kernel
theorem dX2_takeLetter_50 : decode cX2_takeLetter 50 = .ok (.invokevirtual 227, 3) := by decide +kernel
theorem dX2_takeLetter_53 : decode cX2_takeLetter 53 = .ok (.invokevirtual 230, 3) := by decide +kernel
theorem dX2_takeLetter_56 : decode cX2_takeLetter 56 = .ok (.aload_n 2, 1) := by decide +kernel
theorem dX2_takeLetter_57 : decode cX2_takeLetter 57 = .ok (.getfield 207, 3) := by decide +kernel
theorem dX2_takeLetter_60 : decode cX2_takeLetter 60 = .ok (.iconst 4, 1) := by decide +kernel
theorem dX2_takeLetter_61 : decode cX2_takeLetter 61 = .ok (.if_icmp .ge 4, 3) := by decide +kernel
theorem dX2_takeLetter_64 : decode cX2_takeLetter 64 = .ok (.return_, 1) := by decide +kernel
theorem dX2_takeLetter_65 : decode cX2_takeLetter 65 = .ok (.aload_n 0, 1) := by decide +kernel
theorem dX2_takeLetter_66 : decode cX2_takeLetter 66 = .ok (.getfield 55, 3) := by decide +kernel
theorem dX2_takeLetter_69 : decode cX2_takeLetter 69 = .ok (.aload_n 2, 1) := by decide +kernel
theorem dX2_takeLetter_70 : decode cX2_takeLetter 70 = .ok (.getfield 112, 3) := by decide +kernel
theorem dX2_takeLetter_73 : decode cX2_takeLetter 73 = .ok (.aload_n 2, 1) := by decide +kernel
theorem dX2_takeLetter_74 : decode cX2_takeLetter 74 = .ok (.getfield 109, 3) := by decide +kernel
theorem dX2_takeLetter_77 : decode cX2_takeLetter 77 = .ok (.aload_n 2, 1) := by decide +kernel
theorem dX2_takeLetter_78 : decode cX2_takeLetter 78 = .ok (.invokevirtual 232, 3) := by decide +kernel
theorem dX2_takeLetter_81 : decode cX2_takeLetter 81 = .ok (.invokevirtual 235, 3) := by decide +kernel
theorem dX2_takeLetter_84 : decode cX2_takeLetter 84 = .ok (.aload_n 0, 1) := by decide +kernel
theorem dX2_takeLetter_85 : decode cX2_takeLetter 85 = .ok (.getfield 55, 3) := by decide +kernel
theorem dX2_takeLetter_88 : decode cX2_takeLetter 88 = .ok (.getfield 237, 3) := by decide +kernel
theorem dX2_takeLetter_91 : decode cX2_takeLetter 91 = .ok (.aload_n 2, 1) := by decide +kernel
theorem dX2_takeLetter_92 : decode cX2_takeLetter 92 = .ok (.getfield 112, 3) := by decide +kernel
theorem dX2_takeLetter_95 : decode cX2_takeLetter 95 = .ok (.if_icmp .ne 18, 3) := by decide +kernel
theorem dX2_takeLetter_98 : decode cX2_takeLetter 98 = .ok (.aload_n 0, 1) := by decide +kernel
theorem dX2_takeLetter_99 : decode cX2_takeLetter 99 = .ok (.getfield 55, 3) := by decide +kernel
theorem dX2_takeLetter_102 : decode cX2_takeLetter 102 = .ok (.getfield 238, 3) := by decide +kernel
theorem dX2_takeLetter_105 : decode cX2_takeLetter 105 = .ok (.aload_n 2, 1) := by decide +kernel
theorem dX2_takeLetter_106 : decode cX2_takeLetter 106 = .ok (.getfield 109, 3) := by decide +kernel
theorem dX2_takeLetter_109 : decode cX2_takeLetter 109 = .ok (.if_icmp .ne 4, 3) := by decide +kernel
theorem dX2_takeLetter_112 : decode cX2_takeLetter 112 = .ok (.return_, 1) := by decide +kernel
theorem dX2_takeLetter_113 : decode cX2_takeLetter 113 = .ok (.aload_n 2, 1) := by decide +kernel
theorem dX2_takeLetter_114 : decode cX2_takeLetter 114 = .ok (.iconst 0, 1) := by decide +kernel
theorem dX2_takeLetter_115 : decode cX2_takeLetter 115 = .ok (.putfield 207, 3) := by decide +kernel
theorem dX2_takeLetter_118 : decode cX2_takeLetter 118 = .ok (.aload_n 0, 1) := by decide +kernel
theorem dX2_takeLetter_119 : decode cX2_takeLetter 119 = .ok (.iload_n 1, 1) := by decide +kernel
theorem dX2_takeLetter_120 : decode cX2_takeLetter 120 = .ok (.aload_n 2, 1) := by decide +kernel
theorem dX2_takeLetter_121 : decode cX2_takeLetter 121 = .ok (.invokevirtual 210, 3) := by decide +kernel
theorem dX2_takeLetter_124 : decode cX2_takeLetter 124 = .ok (.ifCond .eq 33, 3) := by decide +kernel
theorem dX2_takeLetter_127 : decode cX2_takeLetter 127 = .ok (.aload_n 2, 1) := by decide +kernel
theorem dX2_takeLetter_128 : decode cX2_takeLetter 128 = .ok (.getfield 214, 3) := by decide +kernel
theorem dX2_takeLetter_131 : decode cX2_takeLetter 131 = .ok (.iconst 1, 1) := by decide +kernel
theorem dX2_takeLetter_132 : decode cX2_takeLetter 132 = .ok (.if_icmp .ne 25, 3) := by decide +kernel
theorem dX2_takeLetter_135 : decode cX2_takeLetter 135 = .ok (.aload_n 2, 1) := by decide +kernel
theorem dX2_takeLetter_136 : decode cX2_takeLetter 136 = .ok (.aload_n 0, 1) := by decide +kernel
theorem dX2_takeLetter_137 : decode cX2_takeLetter 137 = .ok (.getfield 55, 3) := by decide +kernel
theorem dX2_takeLetter_140 : decode cX2_takeLetter 140 = .ok (.getfield 237, 3) := by decide +kernel
theorem dX2_takeLetter_143 : decode cX2_takeLetter 143 = .ok (.putfield 112, 3) := by decide +kernel
theorem dX2_takeLetter_146 : decode cX2_takeLetter 146 = .ok (.aload_n 2, 1) := by decide +kernel
theorem dX2_takeLetter_147 : decode cX2_takeLetter 147 = .ok (.aload_n 0, 1) := by decide +kernel
theorem dX2_takeLetter_148 : decode cX2_takeLetter 148 = .ok (.getfield 55, 3) := by decide +kernel
theorem dX2_takeLetter_151 : decode cX2_takeLetter 151 = .ok (.getfield 238, 3) := by decide +kernel
theorem dX2_takeLetter_154 : decode cX2_takeLetter 154 = .ok (.putfield 109, 3) := by decide +kernel
theorem dX2_takeLetter_157 : decode cX2_takeLetter 157 = .ok (.return_, 1) := by decide +kernel
theorem dX2_sendAnswer_0 : decode cX2_sendAnswer 0 = .ok (.bipush 6, 2) := by decide +kernel
theorem dX2_sendAnswer_2 : decode cX2_sendAnswer 2 = .ok (.aload_n 2, 1) := by decide +kernel
theorem dX2_sendAnswer_3 : decode cX2_sendAnswer 3 = .ok (.getfield 112, 3) := by decide +kernel
theorem dX2_sendAnswer_6 : decode cX2_sendAnswer 6 = .ok (.isub, 1) := by decide +kernel
theorem dX2_sendAnswer_7 : decode cX2_sendAnswer 7 = .ok (.istore_n 3, 1) := by decide +kernel
theorem dX2_sendAnswer_8 : decode cX2_sendAnswer 8 = .ok (.iconst (-1), 1) := by decide +kernel
theorem dX2_sendAnswer_9 : decode cX2_sendAnswer 9 = .ok (.istore 4, 2) := by decide +kernel
theorem dX2_sendAnswer_11 : decode cX2_sendAnswer 11 = .ok (.iconst (-1), 1) := by decide +kernel
theorem dX2_sendAnswer_12 : decode cX2_sendAnswer 12 = .ok (.istore 5, 2) := by decide +kernel
theorem dX2_sendAnswer_14 : decode cX2_sendAnswer 14 = .ok (.iconst 0, 1) := by decide +kernel
theorem dX2_sendAnswer_15 : decode cX2_sendAnswer 15 = .ok (.istore 6, 2) := by decide +kernel
theorem dX2_sendAnswer_17 : decode cX2_sendAnswer 17 = .ok (.iload 6, 2) := by decide +kernel
theorem dX2_sendAnswer_19 : decode cX2_sendAnswer 19 = .ok (.aload_n 0, 1) := by decide +kernel
theorem dX2_sendAnswer_20 : decode cX2_sendAnswer 20 = .ok (.getfield 15, 3) := by decide +kernel
theorem dX2_sendAnswer_23 : decode cX2_sendAnswer 23 = .ok (.if_icmp .ge 50, 3) := by decide +kernel
theorem dX2_sendAnswer_26 : decode cX2_sendAnswer 26 = .ok (.aload_n 0, 1) := by decide +kernel
theorem dX2_sendAnswer_27 : decode cX2_sendAnswer 27 = .ok (.getfield 48, 3) := by decide +kernel
theorem dX2_sendAnswer_30 : decode cX2_sendAnswer 30 = .ok (.iload_n 1, 1) := by decide +kernel
theorem dX2_sendAnswer_31 : decode cX2_sendAnswer 31 = .ok (.iload 6, 2) := by decide +kernel
theorem dX2_sendAnswer_33 : decode cX2_sendAnswer 33 = .ok (.invokevirtual 227, 3) := by decide +kernel
theorem dX2_sendAnswer_36 : decode cX2_sendAnswer 36 = .ok (.istore 7, 2) := by decide +kernel
theorem dX2_sendAnswer_38 : decode cX2_sendAnswer 38 = .ok (.iload 7, 2) := by decide +kernel
theorem dX2_sendAnswer_40 : decode cX2_sendAnswer 40 = .ok (.iload 5, 2) := by decide +kernel
theorem dX2_sendAnswer_42 : decode cX2_sendAnswer 42 = .ok (.if_icmp .le 25, 3) := by decide +kernel
theorem dX2_sendAnswer_45 : decode cX2_sendAnswer 45 = .ok (.aload_n 0, 1) := by decide +kernel
theorem dX2_sendAnswer_46 : decode cX2_sendAnswer 46 = .ok (.getfield 34, 3) := by decide +kernel
theorem dX2_sendAnswer_49 : decode cX2_sendAnswer 49 = .ok (.iload 6, 2) := by decide +kernel
theorem dX2_sendAnswer_51 : decode cX2_sendAnswer 51 = .ok (.aaload, 1) := by decide +kernel
theorem dX2_sendAnswer_52 : decode cX2_sendAnswer 52 = .ok (.invokevirtual 239, 3) := by decide +kernel
theorem dX2_sendAnswer_55 : decode cX2_sendAnswer 55 = .ok (.iload_n 3, 1) := by decide +kernel
theorem dX2_sendAnswer_56 : decode cX2_sendAnswer 56 = .ok (.if_icmp .lt 11, 3) := by decide +kernel
theorem dX2_sendAnswer_59 : decode cX2_sendAnswer 59 = .ok (.iload 6, 2) := by decide +kernel
theorem dX2_sendAnswer_61 : decode cX2_sendAnswer 61 = .ok (.istore 4, 2) := by decide +kernel
theorem dX2_sendAnswer_63 : decode cX2_sendAnswer 63 = .ok (.iload 7, 2) := by decide +kernel
theorem dX2_sendAnswer_65 : decode cX2_sendAnswer 65 = .ok (.istore 5, 2) := by decide +kernel
theorem dX2_sendAnswer_67 : decode cX2_sendAnswer 67 = .ok (.iinc 6 1, 3) := by decide +kernel
theorem dX2_sendAnswer_70 : decode cX2_sendAnswer 70 = .ok (.goto (-53), 3) := by decide +kernel
theorem dX2_sendAnswer_73 : decode cX2_sendAnswer 73 = .ok (.iload 4, 2) := by decide +kernel
theorem dX2_sendAnswer_75 : decode cX2_sendAnswer 75 = .ok (.iconst (-1), 1) := by decide +kernel
theorem dX2_sendAnswer_76 : decode cX2_sendAnswer 76 = .ok (.if_icmp .ne 15, 3) := by decide +kernel
theorem dX2_sendAnswer_79 : decode cX2_sendAnswer 79 = .ok (.aload_n 0, 1) := by decide +kernel
theorem dX2_sendAnswer_80 : decode cX2_sendAnswer 80 = .ok (.dup, 1) := by decide +kernel
theorem dX2_sendAnswer_81 : decode cX2_sendAnswer 81 = .ok (.getfield 80, 3) := by decide +kernel
theorem dX2_sendAnswer_84 : decode cX2_sendAnswer 84 = .ok (.iconst 1, 1) := by decide +kernel
theorem dX2_sendAnswer_85 : decode cX2_sendAnswer 85 = .ok (.iadd, 1) := by decide +kernel
theorem dX2_sendAnswer_86 : decode cX2_sendAnswer 86 = .ok (.putfield 80, 3) := by decide +kernel
theorem dX2_sendAnswer_89 : decode cX2_sendAnswer 89 = .ok (.iconst 0, 1) := by decide +kernel
theorem dX2_sendAnswer_90 : decode cX2_sendAnswer 90 = .ok (.ireturn, 1) := by decide +kernel
theorem dX2_sendAnswer_91 : decode cX2_sendAnswer 91 = .ok (.aload_n 0, 1) := by decide +kernel
theorem dX2_sendAnswer_92 : decode cX2_sendAnswer 92 = .ok (.getfield 34, 3) := by decide +kernel
theorem dX2_sendAnswer_95 : decode cX2_sendAnswer 95 = .ok (.iload 4, 2) := by decide +kernel
theorem dX2_sendAnswer_97 : decode cX2_sendAnswer 97 = .ok (.aaload, 1) := by decide +kernel
theorem dX2_sendAnswer_98 : decode cX2_sendAnswer 98 = .ok (.dup, 1) := by decide +kernel
theorem dX2_sendAnswer_99 : decode cX2_sendAnswer 99 = .ok (.getfield 148, 3) := by decide +kernel
theorem dX2_sendAnswer_102 : decode cX2_sendAnswer 102 = .ok (.iload_n 3, 1) := by decide +kernel
theorem dX2_sendAnswer_103 : decode cX2_sendAnswer 103 = .ok (.iadd, 1) := by decide +kernel
theorem dX2_sendAnswer_104 : decode cX2_sendAnswer 104 = .ok (.putfield 148, 3) := by decide +kernel
theorem dX2_sendAnswer_107 : decode cX2_sendAnswer 107 = .ok (.aload_n 0, 1) := by decide +kernel
theorem dX2_sendAnswer_108 : decode cX2_sendAnswer 108 = .ok (.getfield 34, 3) := by decide +kernel
theorem dX2_sendAnswer_111 : decode cX2_sendAnswer 111 = .ok (.iload 4, 2) := by decide +kernel
theorem dX2_sendAnswer_113 : decode cX2_sendAnswer 113 = .ok (.aaload, 1) := by decide +kernel
theorem dX2_sendAnswer_114 : decode cX2_sendAnswer 114 = .ok (.dup, 1) := by decide +kernel
theorem dX2_sendAnswer_115 : decode cX2_sendAnswer 115 = .ok (.getfield 242, 3) := by decide +kernel
theorem dX2_sendAnswer_118 : decode cX2_sendAnswer 118 = .ok (.iconst 1, 1) := by decide +kernel
theorem dX2_sendAnswer_119 : decode cX2_sendAnswer 119 = .ok (.iadd, 1) := by decide +kernel
theorem dX2_sendAnswer_120 : decode cX2_sendAnswer 120 = .ok (.putfield 242, 3) := by decide +kernel
theorem dX2_sendAnswer_123 : decode cX2_sendAnswer 123 = .ok (.aload_n 0, 1) := by decide +kernel
theorem dX2_sendAnswer_124 : decode cX2_sendAnswer 124 = .ok (.dup, 1) := by decide +kernel
theorem dX2_sendAnswer_125 : decode cX2_sendAnswer 125 = .ok (.getfield 77, 3) := by decide +kernel
theorem dX2_sendAnswer_128 : decode cX2_sendAnswer 128 = .ok (.iconst 1, 1) := by decide +kernel
theorem dX2_sendAnswer_129 : decode cX2_sendAnswer 129 = .ok (.iadd, 1) := by decide +kernel
theorem dX2_sendAnswer_130 : decode cX2_sendAnswer 130 = .ok (.putfield 77, 3) := by decide +kernel
theorem dX2_sendAnswer_133 : decode cX2_sendAnswer 133 = .ok (.iconst 1, 1) := by decide +kernel
theorem dX2_sendAnswer_134 : decode cX2_sendAnswer 134 = .ok (.ireturn, 1) := by decide +kernel
theorem dX2_value_0 : decode cX2_value 0 = .ok (.iload_n 1, 1) := by decide +kernel
theorem dX2_value_1 : decode cX2_value 1 = .ok (.tableswitch 93 0 7 #[47, 55, 63, 68, 73, 78, 83, 88], 47) := by decide +kernel
theorem dX2_value_48 : decode cX2_value 48 = .ok (.aload_n 0, 1) := by decide +kernel
theorem dX2_value_49 : decode cX2_value 49 = .ok (.getfield 41, 3) := by decide +kernel
theorem dX2_value_52 : decode cX2_value 52 = .ok (.getfield 64, 3) := by decide +kernel
theorem dX2_value_55 : decode cX2_value 55 = .ok (.ireturn, 1) := by decide +kernel
theorem dX2_value_56 : decode cX2_value 56 = .ok (.aload_n 0, 1) := by decide +kernel
theorem dX2_value_57 : decode cX2_value 57 = .ok (.getfield 48, 3) := by decide +kernel
theorem dX2_value_60 : decode cX2_value 60 = .ok (.getfield 67, 3) := by decide +kernel
theorem dX2_value_63 : decode cX2_value 63 = .ok (.ireturn, 1) := by decide +kernel
theorem dX2_value_64 : decode cX2_value 64 = .ok (.aload_n 0, 1) := by decide +kernel
theorem dX2_value_65 : decode cX2_value 65 = .ok (.getfield 68, 3) := by decide +kernel
theorem dX2_value_68 : decode cX2_value 68 = .ok (.ireturn, 1) := by decide +kernel
theorem dX2_value_69 : decode cX2_value 69 = .ok (.aload_n 0, 1) := by decide +kernel
theorem dX2_value_70 : decode cX2_value 70 = .ok (.getfield 71, 3) := by decide +kernel
theorem dX2_value_73 : decode cX2_value 73 = .ok (.ireturn, 1) := by decide +kernel
theorem dX2_value_74 : decode cX2_value 74 = .ok (.aload_n 0, 1) := by decide +kernel
theorem dX2_value_75 : decode cX2_value 75 = .ok (.getfield 74, 3) := by decide +kernel
theorem dX2_value_78 : decode cX2_value 78 = .ok (.ireturn, 1) := by decide +kernel
theorem dX2_value_79 : decode cX2_value 79 = .ok (.aload_n 0, 1) := by decide +kernel
theorem dX2_value_80 : decode cX2_value 80 = .ok (.getfield 77, 3) := by decide +kernel
theorem dX2_value_83 : decode cX2_value 83 = .ok (.ireturn, 1) := by decide +kernel
theorem dX2_value_84 : decode cX2_value 84 = .ok (.aload_n 0, 1) := by decide +kernel
theorem dX2_value_85 : decode cX2_value 85 = .ok (.getfield 80, 3) := by decide +kernel
theorem dX2_value_88 : decode cX2_value 88 = .ok (.ireturn, 1) := by decide +kernel
theorem dX2_value_89 : decode cX2_value 89 = .ok (.aload_n 0, 1) := by decide +kernel
theorem dX2_value_90 : decode cX2_value 90 = .ok (.getfield 83, 3) := by decide +kernel
theorem dX2_value_93 : decode cX2_value 93 = .ok (.ireturn, 1) := by decide +kernel
theorem dX2_value_94 : decode cX2_value 94 = .ok (.aload_n 0, 1) := by decide +kernel
theorem dX2_value_95 : decode cX2_value 95 = .ok (.getfield 61, 3) := by decide +kernel
theorem dX2_value_98 : decode cX2_value 98 = .ok (.ireturn, 1) := by decide +kernel
theorem dX3_init_0 : decode cX3_init 0 = .ok (.aload_n 0, 1) := by decide +kernel
theorem dX3_init_1 : decode cX3_init 1 = .ok (.invokespecial 3, 3) := by decide +kernel
theorem dX3_init_4 : decode cX3_init 4 = .ok (.aload_n 0, 1) := by decide +kernel
theorem dX3_init_5 : decode cX3_init 5 = .ok (.iconst 4, 1) := by decide +kernel
theorem dX3_init_6 : decode cX3_init 6 = .ok (.newarray .int, 2) := by decide +kernel
theorem dX3_init_8 : decode cX3_init 8 = .ok (.putfield 9, 3) := by decide +kernel
theorem dX3_init_11 : decode cX3_init 11 = .ok (.return_, 1) := by decide +kernel
theorem dX3_becomeNew_0 : decode cX3_becomeNew 0 = .ok (.aload_n 0, 1) := by decide +kernel
theorem dX3_becomeNew_1 : decode cX3_becomeNew 1 = .ok (.iconst 0, 1) := by decide +kernel
theorem dX3_becomeNew_2 : decode cX3_becomeNew 2 = .ok (.putfield 15, 3) := by decide +kernel
theorem dX3_becomeNew_5 : decode cX3_becomeNew 5 = .ok (.aload_n 0, 1) := by decide +kernel
theorem dX3_becomeNew_6 : decode cX3_becomeNew 6 = .ok (.iconst 4, 1) := by decide +kernel
theorem dX3_becomeNew_7 : decode cX3_becomeNew 7 = .ok (.putfield 19, 3) := by decide +kernel
theorem dX3_becomeNew_10 : decode cX3_becomeNew 10 = .ok (.aload_n 0, 1) := by decide +kernel
theorem dX3_becomeNew_11 : decode cX3_becomeNew 11 = .ok (.iconst 0, 1) := by decide +kernel
theorem dX3_becomeNew_12 : decode cX3_becomeNew 12 = .ok (.putfield 22, 3) := by decide +kernel
theorem dX3_becomeNew_15 : decode cX3_becomeNew 15 = .ok (.aload_n 0, 1) := by decide +kernel
theorem dX3_becomeNew_16 : decode cX3_becomeNew 16 = .ok (.iconst 0, 1) := by decide +kernel
theorem dX3_becomeNew_17 : decode cX3_becomeNew 17 = .ok (.putfield 25, 3) := by decide +kernel
theorem dX3_becomeNew_20 : decode cX3_becomeNew 20 = .ok (.aload_n 0, 1) := by decide +kernel
theorem dX3_becomeNew_21 : decode cX3_becomeNew 21 = .ok (.bipush (-2), 2) := by decide +kernel
theorem dX3_becomeNew_23 : decode cX3_becomeNew 23 = .ok (.putfield 28, 3) := by decide +kernel
theorem dX3_becomeNew_26 : decode cX3_becomeNew 26 = .ok (.return_, 1) := by decide +kernel
theorem dX3_becomeUnknown_0 : decode cX3_becomeUnknown 0 = .ok (.aload_n 0, 1) := by decide +kernel
theorem dX3_becomeUnknown_1 : decode cX3_becomeUnknown 1 = .ok (.bipush 63, 2) := by decide +kernel
theorem dX3_becomeUnknown_3 : decode cX3_becomeUnknown 3 = .ok (.putfield 31, 3) := by decide +kernel
theorem dX3_becomeUnknown_6 : decode cX3_becomeUnknown 6 = .ok (.aload_n 0, 1) := by decide +kernel
theorem dX3_becomeUnknown_7 : decode cX3_becomeUnknown 7 = .ok (.iconst 0, 1) := by decide +kernel
theorem dX3_becomeUnknown_8 : decode cX3_becomeUnknown 8 = .ok (.putfield 34, 3) := by decide +kernel
theorem dX3_becomeUnknown_11 : decode cX3_becomeUnknown 11 = .ok (.aload_n 0, 1) := by decide +kernel
theorem dX3_becomeUnknown_12 : decode cX3_becomeUnknown 12 = .ok (.iconst 0, 1) := by decide +kernel
theorem dX3_becomeUnknown_13 : decode cX3_becomeUnknown 13 = .ok (.putfield 37, 3) := by decide +kernel
theorem dX3_becomeUnknown_16 : decode cX3_becomeUnknown 16 = .ok (.aload_n 0, 1) := by decide +kernel
theorem dX3_becomeUnknown_17 : decode cX3_becomeUnknown 17 = .ok (.iconst 0, 1) := by decide +kernel
theorem dX3_becomeUnknown_18 : decode cX3_becomeUnknown 18 = .ok (.putfield 40, 3) := by decide +kernel
theorem dX3_becomeUnknown_21 : decode cX3_becomeUnknown 21 = .ok (.return_, 1) := by decide +kernel
theorem dX3_hasSent_0 : decode cX3_hasSent 0 = .ok (.aload_n 0, 1) := by decide +kernel
theorem dX3_hasSent_1 : decode cX3_hasSent 1 = .ok (.getfield 28, 3) := by decide +kernel
theorem dX3_hasSent_4 : decode cX3_hasSent 4 = .ok (.bipush (-2), 2) := by decide +kernel
theorem dX3_hasSent_6 : decode cX3_hasSent 6 = .ok (.if_icmp .eq 7, 3) := by decide +kernel
theorem dX3_hasSent_9 : decode cX3_hasSent 9 = .ok (.iconst 1, 1) := by decide +kernel
theorem dX3_hasSent_10 : decode cX3_hasSent 10 = .ok (.goto 4, 3) := by decide +kernel
theorem dX3_hasSent_13 : decode cX3_hasSent 13 = .ok (.iconst 0, 1) := by decide +kernel
theorem dX3_hasSent_14 : decode cX3_hasSent 14 = .ok (.ireturn, 1) := by decide +kernel
theorem dX3_nextLetter_0 : decode cX3_nextLetter 0 = .ok (.aload_n 0, 1) := by decide +kernel
theorem dX3_nextLetter_1 : decode cX3_nextLetter 1 = .ok (.getfield 25, 3) := by decide +kernel
theorem dX3_nextLetter_4 : decode cX3_nextLetter 4 = .ok (.ifCond .ne 11, 3) := by decide +kernel
theorem dX3_nextLetter_7 : decode cX3_nextLetter 7 = .ok (.aload_n 0, 1) := by decide +kernel
theorem dX3_nextLetter_8 : decode cX3_nextLetter 8 = .ok (.iconst (-1), 1) := by decide +kernel
theorem dX3_nextLetter_9 : decode cX3_nextLetter 9 = .ok (.putfield 28, 3) := by decide +kernel
theorem dX3_nextLetter_12 : decode cX3_nextLetter 12 = .ok (.goto 24, 3) := by decide +kernel
theorem dX3_nextLetter_15 : decode cX3_nextLetter 15 = .ok (.aload_n 0, 1) := by decide +kernel
theorem dX3_nextLetter_16 : decode cX3_nextLetter 16 = .ok (.aload_n 0, 1) := by decide +kernel
theorem dX3_nextLetter_17 : decode cX3_nextLetter 17 = .ok (.getfield 22, 3) := by decide +kernel
theorem dX3_nextLetter_20 : decode cX3_nextLetter 20 = .ok (.putfield 28, 3) := by decide +kernel
theorem dX3_nextLetter_23 : decode cX3_nextLetter 23 = .ok (.aload_n 0, 1) := by decide +kernel
theorem dX3_nextLetter_24 : decode cX3_nextLetter 24 = .ok (.aload_n 0, 1) := by decide +kernel
theorem dX3_nextLetter_25 : decode cX3_nextLetter 25 = .ok (.getfield 22, 3) := by decide +kernel
theorem dX3_nextLetter_28 : decode cX3_nextLetter 28 = .ok (.iconst 1, 1) := by decide +kernel
theorem dX3_nextLetter_29 : decode cX3_nextLetter 29 = .ok (.iadd, 1) := by decide +kernel
theorem dX3_nextLetter_30 : decode cX3_nextLetter 30 = .ok (.bipush 64, 2) := by decide +kernel
theorem dX3_nextLetter_32 : decode cX3_nextLetter 32 = .ok (.irem, 1) := by decide +kernel
theorem dX3_nextLetter_33 : decode cX3_nextLetter 33 = .ok (.putfield 22, 3) := by decide +kernel
theorem dX3_nextLetter_36 : decode cX3_nextLetter 36 = .ok (.aload_n 0, 1) := by decide +kernel
theorem dX3_nextLetter_37 : decode cX3_nextLetter 37 = .ok (.getfield 28, 3) := by decide +kernel
theorem dX3_nextLetter_40 : decode cX3_nextLetter 40 = .ok (.ireturn, 1) := by decide +kernel
theorem dX3_aheadOfLast_0 : decode cX3_aheadOfLast 0 = .ok (.iload_n 1, 1) := by decide +kernel
theorem dX3_aheadOfLast_1 : decode cX3_aheadOfLast 1 = .ok (.aload_n 0, 1) := by decide +kernel
theorem dX3_aheadOfLast_2 : decode cX3_aheadOfLast 2 = .ok (.getfield 31, 3) := by decide +kernel
theorem dX3_aheadOfLast_5 : decode cX3_aheadOfLast 5 = .ok (.isub, 1) := by decide +kernel
theorem dX3_aheadOfLast_6 : decode cX3_aheadOfLast 6 = .ok (.bipush 64, 2) := by decide +kernel
theorem dX3_aheadOfLast_8 : decode cX3_aheadOfLast 8 = .ok (.invokestatic 43, 3) := by decide +kernel
theorem dX3_aheadOfLast_11 : decode cX3_aheadOfLast 11 = .ok (.ireturn, 1) := by decide +kernel
theorem dX3_isDue_0 : decode cX3_isDue 0 = .ok (.aload_n 0, 1) := by decide +kernel
theorem dX3_isDue_1 : decode cX3_isDue 1 = .ok (.iload_n 1, 1) := by decide +kernel
theorem dX3_isDue_2 : decode cX3_isDue 2 = .ok (.invokevirtual 49, 3) := by decide +kernel
theorem dX3_isDue_5 : decode cX3_isDue 5 = .ok (.istore_n 2, 1) := by decide +kernel
theorem dX3_isDue_6 : decode cX3_isDue 6 = .ok (.iload_n 2, 1) := by decide +kernel
theorem dX3_isDue_7 : decode cX3_isDue 7 = .ok (.iconst 1, 1) := by decide +kernel
theorem dX3_isDue_8 : decode cX3_isDue 8 = .ok (.if_icmp .lt 13, 3) := by decide +kernel
theorem dX3_isDue_11 : decode cX3_isDue 11 = .ok (.iload_n 2, 1) := by decide +kernel
theorem dX3_isDue_12 : decode cX3_isDue 12 = .ok (.bipush 32, 2) := by decide +kernel
theorem dX3_isDue_14 : decode cX3_isDue 14 = .ok (.if_icmp .gt 7, 3) := by decide +kernel
theorem dX3_isDue_17 : decode cX3_isDue 17 = .ok (.iconst 1, 1) := by decide +kernel
theorem dX3_isDue_18 : decode cX3_isDue 18 = .ok (.goto 4, 3) := by decide +kernel
theorem dX3_isDue_21 : decode cX3_isDue 21 = .ok (.iconst 0, 1) := by decide +kernel
theorem dX3_isDue_22 : decode cX3_isDue 22 = .ok (.ireturn, 1) := by decide +kernel
theorem dX3_takeLetter_0 : decode cX3_takeLetter 0 = .ok (.aload_n 0, 1) := by decide +kernel
theorem dX3_takeLetter_1 : decode cX3_takeLetter 1 = .ok (.dup, 1) := by decide +kernel
theorem dX3_takeLetter_2 : decode cX3_takeLetter 2 = .ok (.getfield 40, 3) := by decide +kernel
theorem dX3_takeLetter_5 : decode cX3_takeLetter 5 = .ok (.aload_n 0, 1) := by decide +kernel
theorem dX3_takeLetter_6 : decode cX3_takeLetter 6 = .ok (.iload_n 1, 1) := by decide +kernel
theorem dX3_takeLetter_7 : decode cX3_takeLetter 7 = .ok (.invokevirtual 49, 3) := by decide +kernel
theorem dX3_takeLetter_10 : decode cX3_takeLetter 10 = .ok (.iconst 1, 1) := by decide +kernel
theorem dX3_takeLetter_11 : decode cX3_takeLetter 11 = .ok (.isub, 1) := by decide +kernel
theorem dX3_takeLetter_12 : decode cX3_takeLetter 12 = .ok (.iadd, 1) := by decide +kernel
theorem dX3_takeLetter_13 : decode cX3_takeLetter 13 = .ok (.putfield 40, 3) := by decide +kernel
theorem dX3_takeLetter_16 : decode cX3_takeLetter 16 = .ok (.aload_n 0, 1) := by decide +kernel
theorem dX3_takeLetter_17 : decode cX3_takeLetter 17 = .ok (.iload_n 1, 1) := by decide +kernel
theorem dX3_takeLetter_18 : decode cX3_takeLetter 18 = .ok (.putfield 31, 3) := by decide +kernel
theorem dX3_takeLetter_21 : decode cX3_takeLetter 21 = .ok (.aload_n 0, 1) := by decide +kernel
theorem dX3_takeLetter_22 : decode cX3_takeLetter 22 = .ok (.dup, 1) := by decide +kernel
theorem dX3_takeLetter_23 : decode cX3_takeLetter 23 = .ok (.getfield 37, 3) := by decide +kernel
theorem dX3_takeLetter_26 : decode cX3_takeLetter 26 = .ok (.iconst 1, 1) := by decide +kernel
theorem dX3_takeLetter_27 : decode cX3_takeLetter 27 = .ok (.iadd, 1) := by decide +kernel
theorem dX3_takeLetter_28 : decode cX3_takeLetter 28 = .ok (.putfield 37, 3) := by decide +kernel
theorem dX3_takeLetter_31 : decode cX3_takeLetter 31 = .ok (.aload_n 0, 1) := by decide +kernel
theorem dX3_takeLetter_32 : decode cX3_takeLetter 32 = .ok (.getfield 34, 3) := by decide +kernel
theorem dX3_takeLetter_35 : decode cX3_takeLetter 35 = .ok (.iconst 4, 1) := by decide +kernel
theorem dX3_takeLetter_36 : decode cX3_takeLetter 36 = .ok (.if_icmp .lt 22, 3) := by decide +kernel
theorem dX3_takeLetter_39 : decode cX3_takeLetter 39 = .ok (.aload_n 0, 1) := by decide +kernel
theorem dX3_takeLetter_40 : decode cX3_takeLetter 40 = .ok (.getfield 9, 3) := by decide +kernel
theorem dX3_takeLetter_43 : decode cX3_takeLetter 43 = .ok (.iconst 1, 1) := by decide +kernel
theorem dX3_takeLetter_44 : decode cX3_takeLetter 44 = .ok (.aload_n 0, 1) := by decide +kernel
theorem dX3_takeLetter_45 : decode cX3_takeLetter 45 = .ok (.getfield 9, 3) := by decide +kernel
theorem dX3_takeLetter_48 : decode cX3_takeLetter 48 = .ok (.iconst 0, 1) := by decide +kernel
theorem dX3_takeLetter_49 : decode cX3_takeLetter 49 = .ok (.iconst 3, 1) := by decide +kernel
theorem dX3_takeLetter_50 : decode cX3_takeLetter 50 = .ok (.invokestatic 53, 3) := by decide +kernel
theorem dX3_takeLetter_53 : decode cX3_takeLetter 53 = .ok (.aload_n 0, 1) := by decide +kernel
theorem dX3_takeLetter_54 : decode cX3_takeLetter 54 = .ok (.iconst 3, 1) := by decide +kernel
theorem dX3_takeLetter_55 : decode cX3_takeLetter 55 = .ok (.putfield 34, 3) := by decide +kernel
theorem dX3_takeLetter_58 : decode cX3_takeLetter 58 = .ok (.aload_n 0, 1) := by decide +kernel
theorem dX3_takeLetter_59 : decode cX3_takeLetter 59 = .ok (.getfield 9, 3) := by decide +kernel
theorem dX3_takeLetter_62 : decode cX3_takeLetter 62 = .ok (.aload_n 0, 1) := by decide +kernel
theorem dX3_takeLetter_63 : decode cX3_takeLetter 63 = .ok (.getfield 34, 3) := by decide +kernel
theorem dX3_takeLetter_66 : decode cX3_takeLetter 66 = .ok (.iload_n 2, 1) := by decide +kernel
theorem dX3_takeLetter_67 : decode cX3_takeLetter 67 = .ok (.iastore, 1) := by decide +kernel
theorem dX3_takeLetter_68 : decode cX3_takeLetter 68 = .ok (.aload_n 0, 1) := by decide +kernel
theorem dX3_takeLetter_69 : decode cX3_takeLetter 69 = .ok (.dup, 1) := by decide +kernel
theorem dX3_takeLetter_70 : decode cX3_takeLetter 70 = .ok (.getfield 34, 3) := by decide +kernel
theorem dX3_takeLetter_73 : decode cX3_takeLetter 73 = .ok (.iconst 1, 1) := by decide +kernel
theorem dX3_takeLetter_74 : decode cX3_takeLetter 74 = .ok (.iadd, 1) := by decide +kernel
theorem dX3_takeLetter_75 : decode cX3_takeLetter 75 = .ok (.putfield 34, 3) := by decide +kernel
theorem dX3_takeLetter_78 : decode cX3_takeLetter 78 = .ok (.return_, 1) := by decide +kernel
theorem dX3_greatestMargin_0 : decode cX3_greatestMargin 0 = .ok (.iconst (-1), 1) := by decide +kernel
theorem dX3_greatestMargin_1 : decode cX3_greatestMargin 1 = .ok (.istore_n 1, 1) := by decide +kernel
theorem dX3_greatestMargin_2 : decode cX3_greatestMargin 2 = .ok (.iconst 0, 1) := by decide +kernel
theorem dX3_greatestMargin_3 : decode cX3_greatestMargin 3 = .ok (.istore_n 2, 1) := by decide +kernel
theorem dX3_greatestMargin_4 : decode cX3_greatestMargin 4 = .ok (.iload_n 2, 1) := by decide +kernel
theorem dX3_greatestMargin_5 : decode cX3_greatestMargin 5 = .ok (.aload_n 0, 1) := by decide +kernel
theorem dX3_greatestMargin_6 : decode cX3_greatestMargin 6 = .ok (.getfield 34, 3) := by decide +kernel
theorem dX3_greatestMargin_9 : decode cX3_greatestMargin 9 = .ok (.if_icmp .ge 25, 3) := by decide +kernel
theorem dX3_greatestMargin_12 : decode cX3_greatestMargin 12 = .ok (.iload_n 2, 1) := by decide +kernel
theorem dX3_greatestMargin_13 : decode cX3_greatestMargin 13 = .ok (.iconst 4, 1) := by decide +kernel
theorem dX3_greatestMargin_14 : decode cX3_greatestMargin 14 = .ok (.if_icmp .ge 20, 3) := by decide +kernel
theorem dX3_greatestMargin_17 : decode cX3_greatestMargin 17 = .ok (.iload_n 1, 1) := by decide +kernel
theorem dX3_greatestMargin_18 : decode cX3_greatestMargin 18 = .ok (.aload_n 0, 1) := by decide +kernel
theorem dX3_greatestMargin_19 : decode cX3_greatestMargin 19 = .ok (.getfield 9, 3) := by decide +kernel
theorem dX3_greatestMargin_22 : decode cX3_greatestMargin 22 = .ok (.iload_n 2, 1) := by decide +kernel
theorem dX3_greatestMargin_23 : decode cX3_greatestMargin 23 = .ok (.iaload, 1) := by decide +kernel
theorem dX3_greatestMargin_24 : decode cX3_greatestMargin 24 = .ok (.invokestatic 59, 3) := by decide +kernel
theorem dX3_greatestMargin_27 : decode cX3_greatestMargin 27 = .ok (.istore_n 1, 1) := by decide +kernel
theorem dX3_greatestMargin_28 : decode cX3_greatestMargin 28 = .ok (.iinc 2 1, 3) := by decide +kernel
theorem dX3_greatestMargin_31 : decode cX3_greatestMargin 31 = .ok (.goto (-27), 3) := by decide +kernel
theorem dX3_greatestMargin_34 : decode cX3_greatestMargin 34 = .ok (.iload_n 1, 1) := by decide +kernel
theorem dX3_greatestMargin_35 : decode cX3_greatestMargin 35 = .ok (.ireturn, 1) := by decide +kernel
theorem dX3_change_0 : decode cX3_change 0 = .ok (.aload_n 0, 1) := by decide +kernel
theorem dX3_change_1 : decode cX3_change 1 = .ok (.iload_n 1, 1) := by decide +kernel
theorem dX3_change_2 : decode cX3_change 2 = .ok (.invokevirtual 62, 3) := by decide +kernel
theorem dX3_change_5 : decode cX3_change 5 = .ok (.istore_n 3, 1) := by decide +kernel
theorem dX3_change_6 : decode cX3_change 6 = .ok (.iload_n 1, 1) := by decide +kernel
theorem dX3_change_7 : decode cX3_change 7 = .ok (.tableswitch 49 0 2 #[25, 33, 41], 25) := by decide +kernel
theorem dX3_change_32 : decode cX3_change 32 = .ok (.aload_n 0, 1) := by decide +kernel
theorem dX3_change_33 : decode cX3_change 33 = .ok (.iload_n 2, 1) := by decide +kernel
theorem dX3_change_34 : decode cX3_change 34 = .ok (.putfield 15, 3) := by decide +kernel
theorem dX3_change_37 : decode cX3_change 37 = .ok (.goto 24, 3) := by decide +kernel
theorem dX3_change_40 : decode cX3_change 40 = .ok (.aload_n 0, 1) := by decide +kernel
theorem dX3_change_41 : decode cX3_change 41 = .ok (.iload_n 2, 1) := by decide +kernel
theorem dX3_change_42 : decode cX3_change 42 = .ok (.putfield 19, 3) := by decide +kernel
theorem dX3_change_45 : decode cX3_change 45 = .ok (.goto 16, 3) := by decide +kernel
theorem dX3_change_48 : decode cX3_change 48 = .ok (.aload_n 0, 1) := by decide +kernel
theorem dX3_change_49 : decode cX3_change 49 = .ok (.iload_n 2, 1) := by decide +kernel
theorem dX3_change_50 : decode cX3_change 50 = .ok (.putfield 22, 3) := by decide +kernel
theorem dX3_change_53 : decode cX3_change 53 = .ok (.goto 8, 3) := by decide +kernel
theorem dX3_change_56 : decode cX3_change 56 = .ok (.aload_n 0, 1) := by decide +kernel
theorem dX3_change_57 : decode cX3_change 57 = .ok (.iload_n 2, 1) := by decide +kernel
theorem dX3_change_58 : decode cX3_change 58 = .ok (.putfield 25, 3) := by decide +kernel
theorem dX3_change_61 : decode cX3_change 61 = .ok (.iload_n 3, 1) := by decide +kernel
theorem dX3_change_62 : decode cX3_change 62 = .ok (.ireturn, 1) := by decide +kernel
theorem dX3_value_0 : decode cX3_value 0 = .ok (.iload_n 1, 1) := by decide +kernel
theorem dX3_value_1 : decode cX3_value 1 = .ok (.tableswitch 78 0 6 #[43, 48, 53, 58, 63, 68, 73], 43) := by decide +kernel
theorem dX3_value_44 : decode cX3_value 44 = .ok (.aload_n 0, 1) := by decide +kernel
theorem dX3_value_45 : decode cX3_value 45 = .ok (.getfield 15, 3) := by decide +kernel
theorem dX3_value_48 : decode cX3_value 48 = .ok (.ireturn, 1) := by decide +kernel
theorem dX3_value_49 : decode cX3_value 49 = .ok (.aload_n 0, 1) := by decide +kernel
theorem dX3_value_50 : decode cX3_value 50 = .ok (.getfield 19, 3) := by decide +kernel
theorem dX3_value_53 : decode cX3_value 53 = .ok (.ireturn, 1) := by decide +kernel
theorem dX3_value_54 : decode cX3_value 54 = .ok (.aload_n 0, 1) := by decide +kernel
theorem dX3_value_55 : decode cX3_value 55 = .ok (.getfield 22, 3) := by decide +kernel
theorem dX3_value_58 : decode cX3_value 58 = .ok (.ireturn, 1) := by decide +kernel
theorem dX3_value_59 : decode cX3_value 59 = .ok (.aload_n 0, 1) := by decide +kernel
theorem dX3_value_60 : decode cX3_value 60 = .ok (.getfield 25, 3) := by decide +kernel
theorem dX3_value_63 : decode cX3_value 63 = .ok (.ireturn, 1) := by decide +kernel
theorem dX3_value_64 : decode cX3_value 64 = .ok (.aload_n 0, 1) := by decide +kernel
theorem dX3_value_65 : decode cX3_value 65 = .ok (.getfield 31, 3) := by decide +kernel
theorem dX3_value_68 : decode cX3_value 68 = .ok (.ireturn, 1) := by decide +kernel
theorem dX3_value_69 : decode cX3_value 69 = .ok (.aload_n 0, 1) := by decide +kernel
theorem dX3_value_70 : decode cX3_value 70 = .ok (.getfield 34, 3) := by decide +kernel
theorem dX3_value_73 : decode cX3_value 73 = .ok (.ireturn, 1) := by decide +kernel
theorem dX3_value_74 : decode cX3_value 74 = .ok (.aload_n 0, 1) := by decide +kernel
theorem dX3_value_75 : decode cX3_value 75 = .ok (.getfield 37, 3) := by decide +kernel
theorem dX3_value_78 : decode cX3_value 78 = .ok (.ireturn, 1) := by decide +kernel
theorem dX3_value_79 : decode cX3_value 79 = .ok (.aload_n 0, 1) := by decide +kernel
theorem dX3_value_80 : decode cX3_value 80 = .ok (.getfield 40, 3) := by decide +kernel
theorem dX3_value_83 : decode cX3_value 83 = .ok (.ireturn, 1) := by decide +kernel
theorem dX4_init_0 : decode cX4_init 0 = .ok (.aload_n 0, 1) := by decide +kernel
theorem dX4_init_1 : decode cX4_init 1 = .ok (.invokespecial 3, 3) := by decide +kernel
theorem dX4_init_4 : decode cX4_init 4 = .ok (.aload_n 0, 1) := by decide +kernel
theorem dX4_init_5 : decode cX4_init 5 = .ok (.bipush 120, 2) := by decide +kernel
theorem dX4_init_7 : decode cX4_init 7 = .ok (.newarray .int, 2) := by decide +kernel
theorem dX4_init_9 : decode cX4_init 9 = .ok (.putfield 9, 3) := by decide +kernel
theorem dX4_init_12 : decode cX4_init 12 = .ok (.aload_n 0, 1) := by decide +kernel
theorem dX4_init_13 : decode cX4_init 13 = .ok (.bipush 40, 2) := by decide +kernel
theorem dX4_init_15 : decode cX4_init 15 = .ok (.newarray .int, 2) := by decide +kernel
theorem dX4_init_17 : decode cX4_init 17 = .ok (.putfield 15, 3) := by decide +kernel
theorem dX4_init_20 : decode cX4_init 20 = .ok (.aload_n 0, 1) := by decide +kernel
theorem dX4_init_21 : decode cX4_init 21 = .ok (.bipush 40, 2) := by decide +kernel
theorem dX4_init_23 : decode cX4_init 23 = .ok (.newarray .int, 2) := by decide +kernel
theorem dX4_init_25 : decode cX4_init 25 = .ok (.putfield 18, 3) := by decide +kernel
theorem dX4_init_28 : decode cX4_init 28 = .ok (.aload_n 0, 1) := by decide +kernel
theorem dX4_init_29 : decode cX4_init 29 = .ok (.bipush 40, 2) := by decide +kernel
theorem dX4_init_31 : decode cX4_init 31 = .ok (.newarray .int, 2) := by decide +kernel
theorem dX4_init_33 : decode cX4_init 33 = .ok (.putfield 21, 3) := by decide +kernel
theorem dX4_init_36 : decode cX4_init 36 = .ok (.aload_n 0, 1) := by decide +kernel
theorem dX4_init_37 : decode cX4_init 37 = .ok (.bipush 40, 2) := by decide +kernel
theorem dX4_init_39 : decode cX4_init 39 = .ok (.newarray .int, 2) := by decide +kernel
theorem dX4_init_41 : decode cX4_init 41 = .ok (.putfield 24, 3) := by decide +kernel
theorem dX4_init_44 : decode cX4_init 44 = .ok (.return_, 1) := by decide +kernel
theorem dX4_readOrders_0 : decode cX4_readOrders 0 = .ok (.aload_n 0, 1) := by decide +kernel
theorem dX4_readOrders_1 : decode cX4_readOrders 1 = .ok (.iconst 0, 1) := by decide +kernel
theorem dX4_readOrders_2 : decode cX4_readOrders 2 = .ok (.putfield 27, 3) := by decide +kernel
theorem dX4_readOrders_5 : decode cX4_readOrders 5 = .ok (.aload_n 0, 1) := by decide +kernel
theorem dX4_readOrders_6 : decode cX4_readOrders 6 = .ok (.iconst 0, 1) := by decide +kernel
theorem dX4_readOrders_7 : decode cX4_readOrders 7 = .ok (.putfield 31, 3) := by decide +kernel
theorem dX4_readOrders_10 : decode cX4_readOrders 10 = .ok (.aload_n 0, 1) := by decide +kernel
theorem dX4_readOrders_11 : decode cX4_readOrders 11 = .ok (.invokevirtual 34, 3) := by decide +kernel
theorem dX4_readOrders_14 : decode cX4_readOrders 14 = .ok (.aload_n 0, 1) := by decide +kernel
theorem dX4_readOrders_15 : decode cX4_readOrders 15 = .ok (.getfield 31, 3) := by decide +kernel
theorem dX4_readOrders_18 : decode cX4_readOrders 18 = .ok (.aload_n 0, 1) := by decide +kernel
theorem dX4_readOrders_19 : decode cX4_readOrders 19 = .ok (.getfield 37, 3) := by decide +kernel
theorem dX4_readOrders_22 : decode cX4_readOrders 22 = .ok (.if_icmp .lt 8, 3) := by decide +kernel
theorem dX4_readOrders_25 : decode cX4_readOrders 25 = .ok (.aload_n 0, 1) := by decide +kernel
theorem dX4_readOrders_26 : decode cX4_readOrders 26 = .ok (.getfield 37, 3) := by decide +kernel
theorem dX4_readOrders_29 : decode cX4_readOrders 29 = .ok (.ireturn, 1) := by decide +kernel
theorem dX4_readOrders_30 : decode cX4_readOrders 30 = .ok (.iconst 0, 1) := by decide +kernel
theorem dX4_readOrders_31 : decode cX4_readOrders 31 = .ok (.istore_n 3, 1) := by decide +kernel
theorem dX4_readOrders_32 : decode cX4_readOrders 32 = .ok (.iload_n 3, 1) := by decide +kernel
theorem dX4_readOrders_33 : decode cX4_readOrders 33 = .ok (.bipush 40, 2) := by decide +kernel
theorem dX4_readOrders_35 : decode cX4_readOrders 35 = .ok (.if_icmp .ge 38, 3) := by decide +kernel
theorem dX4_readOrders_38 : decode cX4_readOrders 38 = .ok (.aload_n 0, 1) := by decide +kernel
theorem dX4_readOrders_39 : decode cX4_readOrders 39 = .ok (.getfield 31, 3) := by decide +kernel
theorem dX4_readOrders_42 : decode cX4_readOrders 42 = .ok (.aload_n 0, 1) := by decide +kernel
theorem dX4_readOrders_43 : decode cX4_readOrders 43 = .ok (.getfield 37, 3) := by decide +kernel
theorem dX4_readOrders_46 : decode cX4_readOrders 46 = .ok (.if_icmp .ge 27, 3) := by decide +kernel
theorem dX4_readOrders_49 : decode cX4_readOrders 49 = .ok (.aload_n 0, 1) := by decide +kernel
theorem dX4_readOrders_50 : decode cX4_readOrders 50 = .ok (.iload_n 1, 1) := by decide +kernel
theorem dX4_readOrders_51 : decode cX4_readOrders 51 = .ok (.iload_n 2, 1) := by decide +kernel
theorem dX4_readOrders_52 : decode cX4_readOrders 52 = .ok (.invokevirtual 40, 3) := by decide +kernel
theorem dX4_readOrders_55 : decode cX4_readOrders 55 = .ok (.ifCond .ne 8, 3) := by decide +kernel
theorem dX4_readOrders_58 : decode cX4_readOrders 58 = .ok (.aload_n 0, 1) := by decide +kernel
theorem dX4_readOrders_59 : decode cX4_readOrders 59 = .ok (.getfield 31, 3) := by decide +kernel
theorem dX4_readOrders_62 : decode cX4_readOrders 62 = .ok (.ireturn, 1) := by decide +kernel
theorem dX4_readOrders_63 : decode cX4_readOrders 63 = .ok (.aload_n 0, 1) := by decide +kernel
theorem dX4_readOrders_64 : decode cX4_readOrders 64 = .ok (.invokevirtual 34, 3) := by decide +kernel
theorem dX4_readOrders_67 : decode cX4_readOrders 67 = .ok (.iinc 3 1, 3) := by decide +kernel
theorem dX4_readOrders_70 : decode cX4_readOrders 70 = .ok (.goto (-38), 3) := by decide +kernel
theorem dX4_readOrders_73 : decode cX4_readOrders 73 = .ok (.iconst (-1), 1) := by decide +kernel
theorem dX4_readOrders_74 : decode cX4_readOrders 74 = .ok (.ireturn, 1) := by decide +kernel
theorem dX4_readOrder_0 : decode cX4_readOrder 0 = .ok (.aload_n 0, 1) := by decide +kernel
theorem dX4_readOrder_1 : decode cX4_readOrder 1 = .ok (.getfield 9, 3) := by decide +kernel
theorem dX4_readOrder_4 : decode cX4_readOrder 4 = .ok (.aload_n 0, 1) := by decide +kernel
theorem dX4_readOrder_5 : decode cX4_readOrder 5 = .ok (.getfield 31, 3) := by decide +kernel
theorem dX4_readOrder_8 : decode cX4_readOrder 8 = .ok (.iaload, 1) := by decide +kernel
theorem dX4_readOrder_9 : decode cX4_readOrder 9 = .ok (.istore_n 3, 1) := by decide +kernel
theorem dX4_readOrder_10 : decode cX4_readOrder 10 = .ok (.iload_n 3, 1) := by decide +kernel
theorem dX4_readOrder_11 : decode cX4_readOrder 11 = .ok (.invokestatic 44, 3) := by decide +kernel
theorem dX4_readOrder_14 : decode cX4_readOrder 14 = .ok (.ifCond .ne 5, 3) := by decide +kernel
theorem dX4_readOrder_17 : decode cX4_readOrder 17 = .ok (.iconst 0, 1) := by decide +kernel
theorem dX4_readOrder_18 : decode cX4_readOrder 18 = .ok (.ireturn, 1) := by decide +kernel
theorem dX4_readOrder_19 : decode cX4_readOrder 19 = .ok (.aload_n 0, 1) := by decide +kernel
theorem dX4_readOrder_20 : decode cX4_readOrder 20 = .ok (.dup, 1) := by decide +kernel
theorem dX4_readOrder_21 : decode cX4_readOrder 21 = .ok (.getfield 31, 3) := by decide +kernel
theorem dX4_readOrder_24 : decode cX4_readOrder 24 = .ok (.iconst 1, 1) := by decide +kernel
theorem dX4_readOrder_25 : decode cX4_readOrder 25 = .ok (.iadd, 1) := by decide +kernel
theorem dX4_readOrder_26 : decode cX4_readOrder 26 = .ok (.putfield 31, 3) := by decide +kernel
theorem dX4_readOrder_29 : decode cX4_readOrder 29 = .ok (.iload_n 3, 1) := by decide +kernel
theorem dX4_readOrder_30 : decode cX4_readOrder 30 = .ok (.invokestatic 48, 3) := by decide +kernel
theorem dX4_readOrder_33 : decode cX4_readOrder 33 = .ok (.ifCond .eq 11, 3) := by decide +kernel
theorem dX4_readOrder_36 : decode cX4_readOrder 36 = .ok (.aload_n 0, 1) := by decide +kernel
theorem dX4_readOrder_37 : decode cX4_readOrder 37 = .ok (.iload_n 1, 1) := by decide +kernel
theorem dX4_readOrder_38 : decode cX4_readOrder 38 = .ok (.invokevirtual 51, 3) := by decide +kernel
theorem dX4_readOrder_41 : decode cX4_readOrder 41 = .ok (.goto 4, 3) := by decide +kernel
theorem dX4_readOrder_44 : decode cX4_readOrder 44 = .ok (.iconst 0, 1) := by decide +kernel
theorem dX4_readOrder_45 : decode cX4_readOrder 45 = .ok (.istore 4, 2) := by decide +kernel
theorem dX4_readOrder_47 : decode cX4_readOrder 47 = .ok (.iload 4, 2) := by decide +kernel
theorem dX4_readOrder_49 : decode cX4_readOrder 49 = .ok (.iconst (-1), 1) := by decide +kernel
theorem dX4_readOrder_50 : decode cX4_readOrder 50 = .ok (.if_icmp .ne 5, 3) := by decide +kernel
theorem dX4_readOrder_53 : decode cX4_readOrder 53 = .ok (.iconst 0, 1) := by decide +kernel
theorem dX4_readOrder_54 : decode cX4_readOrder 54 = .ok (.ireturn, 1) := by decide +kernel
theorem dX4_readOrder_55 : decode cX4_readOrder 55 = .ok (.iload_n 3, 1) := by decide +kernel
theorem dX4_readOrder_56 : decode cX4_readOrder 56 = .ok (.invokestatic 55, 3) := by decide +kernel
theorem dX4_readOrder_59 : decode cX4_readOrder 59 = .ok (.ifCond .eq 11, 3) := by decide +kernel
theorem dX4_readOrder_62 : decode cX4_readOrder 62 = .ok (.aload_n 0, 1) := by decide +kernel
theorem dX4_readOrder_63 : decode cX4_readOrder 63 = .ok (.iload_n 2, 1) := by decide +kernel
theorem dX4_readOrder_64 : decode cX4_readOrder 64 = .ok (.invokevirtual 51, 3) := by decide +kernel
theorem dX4_readOrder_67 : decode cX4_readOrder 67 = .ok (.goto 4, 3) := by decide +kernel
theorem dX4_readOrder_70 : decode cX4_readOrder 70 = .ok (.iconst 0, 1) := by decide +kernel
theorem dX4_readOrder_71 : decode cX4_readOrder 71 = .ok (.istore 5, 2) := by decide +kernel
theorem dX4_readOrder_73 : decode cX4_readOrder 73 = .ok (.iload 5, 2) := by decide +kernel
theorem dX4_readOrder_75 : decode cX4_readOrder 75 = .ok (.iconst (-1), 1) := by decide +kernel
theorem dX4_readOrder_76 : decode cX4_readOrder 76 = .ok (.if_icmp .ne 5, 3) := by decide +kernel
theorem dX4_readOrder_79 : decode cX4_readOrder 79 = .ok (.iconst 0, 1) := by decide +kernel
theorem dX4_readOrder_80 : decode cX4_readOrder 80 = .ok (.ireturn, 1) := by decide +kernel
theorem dX4_readOrder_81 : decode cX4_readOrder 81 = .ok (.iload_n 3, 1) := by decide +kernel
theorem dX4_readOrder_82 : decode cX4_readOrder 82 = .ok (.invokestatic 58, 3) := by decide +kernel
theorem dX4_readOrder_85 : decode cX4_readOrder 85 = .ok (.ifCond .eq 14, 3) := by decide +kernel
theorem dX4_readOrder_88 : decode cX4_readOrder 88 = .ok (.aload_n 0, 1) := by decide +kernel
theorem dX4_readOrder_89 : decode cX4_readOrder 89 = .ok (.iload_n 3, 1) := by decide +kernel
theorem dX4_readOrder_90 : decode cX4_readOrder 90 = .ok (.invokestatic 61, 3) := by decide +kernel
theorem dX4_readOrder_93 : decode cX4_readOrder 93 = .ok (.invokevirtual 64, 3) := by decide +kernel
theorem dX4_readOrder_96 : decode cX4_readOrder 96 = .ok (.goto 4, 3) := by decide +kernel
theorem dX4_readOrder_99 : decode cX4_readOrder 99 = .ok (.iconst 0, 1) := by decide +kernel
theorem dX4_readOrder_100 : decode cX4_readOrder 100 = .ok (.istore 6, 2) := by decide +kernel
theorem dX4_readOrder_102 : decode cX4_readOrder 102 = .ok (.iload 6, 2) := by decide +kernel
theorem dX4_readOrder_104 : decode cX4_readOrder 104 = .ok (.iconst (-1), 1) := by decide +kernel
theorem dX4_readOrder_105 : decode cX4_readOrder 105 = .ok (.if_icmp .eq 10, 3) := by decide +kernel
theorem dX4_readOrder_108 : decode cX4_readOrder 108 = .ok (.aload_n 0, 1) := by decide +kernel
theorem dX4_readOrder_109 : decode cX4_readOrder 109 = .ok (.invokevirtual 67, 3) := by decide +kernel
theorem dX4_readOrder_112 : decode cX4_readOrder 112 = .ok (.ifCond .ne 5, 3) := by decide +kernel
theorem dX4_readOrder_115 : decode cX4_readOrder 115 = .ok (.iconst 0, 1) := by decide +kernel
theorem dX4_readOrder_116 : decode cX4_readOrder 116 = .ok (.ireturn, 1) := by decide +kernel
theorem dX4_readOrder_117 : decode cX4_readOrder 117 = .ok (.aload_n 0, 1) := by decide +kernel
theorem dX4_readOrder_118 : decode cX4_readOrder 118 = .ok (.getfield 15, 3) := by decide +kernel
theorem dX4_readOrder_121 : decode cX4_readOrder 121 = .ok (.aload_n 0, 1) := by decide +kernel
theorem dX4_readOrder_122 : decode cX4_readOrder 122 = .ok (.getfield 27, 3) := by decide +kernel
theorem dX4_readOrder_125 : decode cX4_readOrder 125 = .ok (.iload_n 3, 1) := by decide +kernel
theorem dX4_readOrder_126 : decode cX4_readOrder 126 = .ok (.iastore, 1) := by decide +kernel
theorem dX4_readOrder_127 : decode cX4_readOrder 127 = .ok (.aload_n 0, 1) := by decide +kernel
theorem dX4_readOrder_128 : decode cX4_readOrder 128 = .ok (.getfield 18, 3) := by decide +kernel
theorem dX4_readOrder_131 : decode cX4_readOrder 131 = .ok (.aload_n 0, 1) := by decide +kernel
theorem dX4_readOrder_132 : decode cX4_readOrder 132 = .ok (.getfield 27, 3) := by decide +kernel
theorem dX4_readOrder_135 : decode cX4_readOrder 135 = .ok (.iload 4, 2) := by decide +kernel
theorem dX4_readOrder_137 : decode cX4_readOrder 137 = .ok (.iastore, 1) := by decide +kernel
theorem dX4_readOrder_138 : decode cX4_readOrder 138 = .ok (.aload_n 0, 1) := by decide +kernel
theorem dX4_readOrder_139 : decode cX4_readOrder 139 = .ok (.getfield 21, 3) := by decide +kernel
theorem dX4_readOrder_142 : decode cX4_readOrder 142 = .ok (.aload_n 0, 1) := by decide +kernel
theorem dX4_readOrder_143 : decode cX4_readOrder 143 = .ok (.getfield 27, 3) := by decide +kernel
theorem dX4_readOrder_146 : decode cX4_readOrder 146 = .ok (.iload 5, 2) := by decide +kernel
theorem dX4_readOrder_148 : decode cX4_readOrder 148 = .ok (.iastore, 1) := by decide +kernel
theorem dX4_readOrder_149 : decode cX4_readOrder 149 = .ok (.aload_n 0, 1) := by decide +kernel
theorem dX4_readOrder_150 : decode cX4_readOrder 150 = .ok (.getfield 24, 3) := by decide +kernel
theorem dX4_readOrder_153 : decode cX4_readOrder 153 = .ok (.aload_n 0, 1) := by decide +kernel
theorem dX4_readOrder_154 : decode cX4_readOrder 154 = .ok (.getfield 27, 3) := by decide +kernel
theorem dX4_readOrder_157 : decode cX4_readOrder 157 = .ok (.iload 6, 2) := by decide +kernel
theorem dX4_readOrder_159 : decode cX4_readOrder 159 = .ok (.iastore, 1) := by decide +kernel
theorem dX4_readOrder_160 : decode cX4_readOrder 160 = .ok (.aload_n 0, 1) := by decide +kernel
theorem dX4_readOrder_161 : decode cX4_readOrder 161 = .ok (.dup, 1) := by decide +kernel
theorem dX4_readOrder_162 : decode cX4_readOrder 162 = .ok (.getfield 27, 3) := by decide +kernel
theorem dX4_readOrder_165 : decode cX4_readOrder 165 = .ok (.iconst 1, 1) := by decide +kernel
theorem dX4_readOrder_166 : decode cX4_readOrder 166 = .ok (.iadd, 1) := by decide +kernel
theorem dX4_readOrder_167 : decode cX4_readOrder 167 = .ok (.putfield 27, 3) := by decide +kernel
theorem dX4_readOrder_170 : decode cX4_readOrder 170 = .ok (.iconst 1, 1) := by decide +kernel
theorem dX4_readOrder_171 : decode cX4_readOrder 171 = .ok (.ireturn, 1) := by decide +kernel
theorem dX4_isKind_0 : decode cX4_isKind 0 = .ok (.iload_n 0, 1) := by decide +kernel
theorem dX4_isKind_1 : decode cX4_isKind 1 = .ok (.invokestatic 48, 3) := by decide +kernel
theorem dX4_isKind_4 : decode cX4_isKind 4 = .ok (.ifCond .ne 17, 3) := by decide +kernel
theorem dX4_isKind_7 : decode cX4_isKind 7 = .ok (.iload_n 0, 1) := by decide +kernel
theorem dX4_isKind_8 : decode cX4_isKind 8 = .ok (.invokestatic 55, 3) := by decide +kernel
theorem dX4_isKind_11 : decode cX4_isKind 11 = .ok (.ifCond .ne 10, 3) := by decide +kernel
theorem dX4_isKind_14 : decode cX4_isKind 14 = .ok (.iload_n 0, 1) := by decide +kernel
theorem dX4_isKind_15 : decode cX4_isKind 15 = .ok (.invokestatic 58, 3) := by decide +kernel
theorem dX4_isKind_18 : decode cX4_isKind 18 = .ok (.ifCond .eq 7, 3) := by decide +kernel
theorem dX4_isKind_21 : decode cX4_isKind 21 = .ok (.iconst 1, 1) := by decide +kernel
theorem dX4_isKind_22 : decode cX4_isKind 22 = .ok (.goto 4, 3) := by decide +kernel
theorem dX4_isKind_25 : decode cX4_isKind 25 = .ok (.iconst 0, 1) := by decide +kernel
theorem dX4_isKind_26 : decode cX4_isKind 26 = .ok (.ireturn, 1) := by decide +kernel
theorem dX4_hasSender_0 : decode cX4_hasSender 0 = .ok (.iload_n 0, 1) := by decide +kernel
theorem dX4_hasSender_1 : decode cX4_hasSender 1 = .ok (.bipush 115, 2) := by decide +kernel
theorem dX4_hasSender_3 : decode cX4_hasSender 3 = .ok (.if_icmp .eq 21, 3) := by decide +kernel
theorem dX4_hasSender_6 : decode cX4_hasSender 6 = .ok (.iload_n 0, 1) := by decide +kernel
theorem dX4_hasSender_7 : decode cX4_hasSender 7 = .ok (.bipush 122, 2) := by decide +kernel
theorem dX4_hasSender_9 : decode cX4_hasSender 9 = .ok (.if_icmp .eq 15, 3) := by decide +kernel
theorem dX4_hasSender_12 : decode cX4_hasSender 12 = .ok (.iload_n 0, 1) := by decide +kernel
theorem dX4_hasSender_13 : decode cX4_hasSender 13 = .ok (.bipush 114, 2) := by decide +kernel
theorem dX4_hasSender_15 : decode cX4_hasSender 15 = .ok (.if_icmp .eq 9, 3) := by decide +kernel
theorem dX4_hasSender_18 : decode cX4_hasSender 18 = .ok (.iload_n 0, 1) := by decide +kernel
theorem dX4_hasSender_19 : decode cX4_hasSender 19 = .ok (.bipush 103, 2) := by decide +kernel
theorem dX4_hasSender_21 : decode cX4_hasSender 21 = .ok (.if_icmp .ne 7, 3) := by decide +kernel
theorem dX4_hasSender_24 : decode cX4_hasSender 24 = .ok (.iconst 1, 1) := by decide +kernel
theorem dX4_hasSender_25 : decode cX4_hasSender 25 = .ok (.goto 4, 3) := by decide +kernel
theorem dX4_hasSender_28 : decode cX4_hasSender 28 = .ok (.iconst 0, 1) := by decide +kernel
theorem dX4_hasSender_29 : decode cX4_hasSender 29 = .ok (.ireturn, 1) := by decide +kernel
theorem dX4_hasGate_0 : decode cX4_hasGate 0 = .ok (.iload_n 0, 1) := by decide +kernel
theorem dX4_hasGate_1 : decode cX4_hasGate 1 = .ok (.bipush 103, 2) := by decide +kernel
theorem dX4_hasGate_3 : decode cX4_hasGate 3 = .ok (.if_icmp .eq 15, 3) := by decide +kernel
theorem dX4_hasGate_6 : decode cX4_hasGate 6 = .ok (.iload_n 0, 1) := by decide +kernel
theorem dX4_hasGate_7 : decode cX4_hasGate 7 = .ok (.bipush 98, 2) := by decide +kernel
theorem dX4_hasGate_9 : decode cX4_hasGate 9 = .ok (.if_icmp .eq 9, 3) := by decide +kernel
theorem dX4_hasGate_12 : decode cX4_hasGate 12 = .ok (.iload_n 0, 1) := by decide +kernel
theorem dX4_hasGate_13 : decode cX4_hasGate 13 = .ok (.bipush 108, 2) := by decide +kernel
theorem dX4_hasGate_15 : decode cX4_hasGate 15 = .ok (.if_icmp .ne 7, 3) := by decide +kernel
theorem dX4_hasGate_18 : decode cX4_hasGate 18 = .ok (.iconst 1, 1) := by decide +kernel
theorem dX4_hasGate_19 : decode cX4_hasGate 19 = .ok (.goto 4, 3) := by decide +kernel
theorem dX4_hasGate_22 : decode cX4_hasGate 22 = .ok (.iconst 0, 1) := by decide +kernel
theorem dX4_hasGate_23 : decode cX4_hasGate 23 = .ok (.ireturn, 1) := by decide +kernel
theorem dX4_hasNumber_0 : decode cX4_hasNumber 0 = .ok (.iload_n 0, 1) := by decide +kernel
theorem dX4_hasNumber_1 : decode cX4_hasNumber 1 = .ok (.bipush 43, 2) := by decide +kernel
theorem dX4_hasNumber_3 : decode cX4_hasNumber 3 = .ok (.if_icmp .eq 10, 3) := by decide +kernel
theorem dX4_hasNumber_6 : decode cX4_hasNumber 6 = .ok (.iload_n 0, 1) := by decide +kernel
theorem dX4_hasNumber_7 : decode cX4_hasNumber 7 = .ok (.invokestatic 55, 3) := by decide +kernel
theorem dX4_hasNumber_10 : decode cX4_hasNumber 10 = .ok (.ifCond .eq 7, 3) := by decide +kernel
theorem dX4_hasNumber_13 : decode cX4_hasNumber 13 = .ok (.iconst 1, 1) := by decide +kernel
theorem dX4_hasNumber_14 : decode cX4_hasNumber 14 = .ok (.goto 4, 3) := by decide +kernel
theorem dX4_hasNumber_17 : decode cX4_hasNumber 17 = .ok (.iconst 0, 1) := by decide +kernel
theorem dX4_hasNumber_18 : decode cX4_hasNumber 18 = .ok (.ireturn, 1) := by decide +kernel
theorem dX4_mostOfNumber_0 : decode cX4_mostOfNumber 0 = .ok (.iload_n 0, 1) := by decide +kernel
theorem dX4_mostOfNumber_1 : decode cX4_mostOfNumber 1 = .ok (.lookupswitch 43 #[(98, 38), (103, 35), (108, 41)], 35) := by decide +kernel
theorem dX4_mostOfNumber_36 : decode cX4_mostOfNumber 36 = .ok (.bipush 60, 2) := by decide +kernel
theorem dX4_mostOfNumber_38 : decode cX4_mostOfNumber 38 = .ok (.ireturn, 1) := by decide +kernel
theorem dX4_mostOfNumber_39 : decode cX4_mostOfNumber 39 = .ok (.bipush 40, 2) := by decide +kernel
theorem dX4_mostOfNumber_41 : decode cX4_mostOfNumber 41 = .ok (.ireturn, 1) := by decide +kernel
theorem dX4_mostOfNumber_42 : decode cX4_mostOfNumber 42 = .ok (.iconst 5, 1) := by decide +kernel
theorem dX4_mostOfNumber_43 : decode cX4_mostOfNumber 43 = .ok (.ireturn, 1) := by decide +kernel
theorem dX4_mostOfNumber_44 : decode cX4_mostOfNumber 44 = .ok (.bipush 99, 2) := by decide +kernel
theorem dX4_mostOfNumber_46 : decode cX4_mostOfNumber 46 = .ok (.ireturn, 1) := by decide +kernel
theorem dX4_skipBlanks_0 : decode cX4_skipBlanks 0 = .ok (.aload_n 0, 1) := by decide +kernel
theorem dX4_skipBlanks_1 : decode cX4_skipBlanks 1 = .ok (.getfield 31, 3) := by decide +kernel
theorem dX4_skipBlanks_4 : decode cX4_skipBlanks 4 = .ok (.aload_n 0, 1) := by decide +kernel
theorem dX4_skipBlanks_5 : decode cX4_skipBlanks 5 = .ok (.getfield 37, 3) := by decide +kernel
theorem dX4_skipBlanks_8 : decode cX4_skipBlanks 8 = .ok (.if_icmp .ge 30, 3) := by decide +kernel
theorem dX4_skipBlanks_11 : decode cX4_skipBlanks 11 = .ok (.aload_n 0, 1) := by decide +kernel
theorem dX4_skipBlanks_12 : decode cX4_skipBlanks 12 = .ok (.getfield 9, 3) := by decide +kernel
theorem dX4_skipBlanks_15 : decode cX4_skipBlanks 15 = .ok (.aload_n 0, 1) := by decide +kernel
theorem dX4_skipBlanks_16 : decode cX4_skipBlanks 16 = .ok (.getfield 31, 3) := by decide +kernel
theorem dX4_skipBlanks_19 : decode cX4_skipBlanks 19 = .ok (.iaload, 1) := by decide +kernel
theorem dX4_skipBlanks_20 : decode cX4_skipBlanks 20 = .ok (.bipush 32, 2) := by decide +kernel
theorem dX4_skipBlanks_22 : decode cX4_skipBlanks 22 = .ok (.if_icmp .ne 16, 3) := by decide +kernel
theorem dX4_skipBlanks_25 : decode cX4_skipBlanks 25 = .ok (.aload_n 0, 1) := by decide +kernel
theorem dX4_skipBlanks_26 : decode cX4_skipBlanks 26 = .ok (.dup, 1) := by decide +kernel
theorem dX4_skipBlanks_27 : decode cX4_skipBlanks 27 = .ok (.getfield 31, 3) := by decide +kernel
theorem dX4_skipBlanks_30 : decode cX4_skipBlanks 30 = .ok (.iconst 1, 1) := by decide +kernel
theorem dX4_skipBlanks_31 : decode cX4_skipBlanks 31 = .ok (.iadd, 1) := by decide +kernel
theorem dX4_skipBlanks_32 : decode cX4_skipBlanks 32 = .ok (.putfield 31, 3) := by decide +kernel
theorem dX4_skipBlanks_35 : decode cX4_skipBlanks 35 = .ok (.goto (-35), 3) := by decide +kernel
theorem dX4_skipBlanks_38 : decode cX4_skipBlanks 38 = .ok (.return_, 1) := by decide +kernel
theorem dX4_isFigureNext_0 : decode cX4_isFigureNext 0 = .ok (.aload_n 0, 1) := by decide +kernel
theorem dX4_isFigureNext_1 : decode cX4_isFigureNext 1 = .ok (.getfield 31, 3) := by decide +kernel
theorem dX4_isFigureNext_4 : decode cX4_isFigureNext 4 = .ok (.aload_n 0, 1) := by decide +kernel
theorem dX4_isFigureNext_5 : decode cX4_isFigureNext 5 = .ok (.getfield 37, 3) := by decide +kernel
theorem dX4_isFigureNext_8 : decode cX4_isFigureNext 8 = .ok (.if_icmp .ge 35, 3) := by decide +kernel
theorem dX4_isFigureNext_11 : decode cX4_isFigureNext 11 = .ok (.aload_n 0, 1) := by decide +kernel
theorem dX4_isFigureNext_12 : decode cX4_isFigureNext 12 = .ok (.getfield 9, 3) := by decide +kernel
theorem dX4_isFigureNext_15 : decode cX4_isFigureNext 15 = .ok (.aload_n 0, 1) := by decide +kernel
theorem dX4_isFigureNext_16 : decode cX4_isFigureNext 16 = .ok (.getfield 31, 3) := by decide +kernel
theorem dX4_isFigureNext_19 : decode cX4_isFigureNext 19 = .ok (.iaload, 1) := by decide +kernel
theorem dX4_isFigureNext_20 : decode cX4_isFigureNext 20 = .ok (.bipush 48, 2) := by decide +kernel
theorem dX4_isFigureNext_22 : decode cX4_isFigureNext 22 = .ok (.if_icmp .lt 21, 3) := by decide +kernel
theorem dX4_isFigureNext_25 : decode cX4_isFigureNext 25 = .ok (.aload_n 0, 1) := by decide +kernel
theorem dX4_isFigureNext_26 : decode cX4_isFigureNext 26 = .ok (.getfield 9, 3) := by decide +kernel
theorem dX4_isFigureNext_29 : decode cX4_isFigureNext 29 = .ok (.aload_n 0, 1) := by decide +kernel
theorem dX4_isFigureNext_30 : decode cX4_isFigureNext 30 = .ok (.getfield 31, 3) := by decide +kernel
theorem dX4_isFigureNext_33 : decode cX4_isFigureNext 33 = .ok (.iaload, 1) := by decide +kernel
theorem dX4_isFigureNext_34 : decode cX4_isFigureNext 34 = .ok (.bipush 57, 2) := by decide +kernel
theorem dX4_isFigureNext_36 : decode cX4_isFigureNext 36 = .ok (.if_icmp .gt 7, 3) := by decide +kernel
theorem dX4_isFigureNext_39 : decode cX4_isFigureNext 39 = .ok (.iconst 1, 1) := by decide +kernel
theorem dX4_isFigureNext_40 : decode cX4_isFigureNext 40 = .ok (.goto 4, 3) := by decide +kernel
theorem dX4_isFigureNext_43 : decode cX4_isFigureNext 43 = .ok (.iconst 0, 1) := by decide +kernel
theorem dX4_isFigureNext_44 : decode cX4_isFigureNext 44 = .ok (.ireturn, 1) := by decide +kernel
theorem dX4_readFigure_0 : decode cX4_readFigure 0 = .ok (.aload_n 0, 1) := by decide +kernel
theorem dX4_readFigure_1 : decode cX4_readFigure 1 = .ok (.invokevirtual 34, 3) := by decide +kernel
theorem dX4_readFigure_4 : decode cX4_readFigure 4 = .ok (.aload_n 0, 1) := by decide +kernel
theorem dX4_readFigure_5 : decode cX4_readFigure 5 = .ok (.invokevirtual 71, 3) := by decide +kernel
theorem dX4_readFigure_8 : decode cX4_readFigure 8 = .ok (.ifCond .eq 19, 3) := by decide +kernel
theorem dX4_readFigure_11 : decode cX4_readFigure 11 = .ok (.aload_n 0, 1) := by decide +kernel
theorem dX4_readFigure_12 : decode cX4_readFigure 12 = .ok (.getfield 9, 3) := by decide +kernel
theorem dX4_readFigure_15 : decode cX4_readFigure 15 = .ok (.aload_n 0, 1) := by decide +kernel
theorem dX4_readFigure_16 : decode cX4_readFigure 16 = .ok (.getfield 31, 3) := by decide +kernel
theorem dX4_readFigure_19 : decode cX4_readFigure 19 = .ok (.iaload, 1) := by decide +kernel
theorem dX4_readFigure_20 : decode cX4_readFigure 20 = .ok (.bipush 48, 2) := by decide +kernel
theorem dX4_readFigure_22 : decode cX4_readFigure 22 = .ok (.isub, 1) := by decide +kernel
theorem dX4_readFigure_23 : decode cX4_readFigure 23 = .ok (.iload_n 1, 1) := by decide +kernel
theorem dX4_readFigure_24 : decode cX4_readFigure 24 = .ok (.if_icmp .lt 5, 3) := by decide +kernel
theorem dX4_readFigure_27 : decode cX4_readFigure 27 = .ok (.iconst (-1), 1) := by decide +kernel
theorem dX4_readFigure_28 : decode cX4_readFigure 28 = .ok (.ireturn, 1) := by decide +kernel
theorem dX4_readFigure_29 : decode cX4_readFigure 29 = .ok (.aload_n 0, 1) := by decide +kernel
theorem dX4_readFigure_30 : decode cX4_readFigure 30 = .ok (.getfield 9, 3) := by decide +kernel
theorem dX4_readFigure_33 : decode cX4_readFigure 33 = .ok (.aload_n 0, 1) := by decide +kernel
theorem dX4_readFigure_34 : decode cX4_readFigure 34 = .ok (.getfield 31, 3) := by decide +kernel
theorem dX4_readFigure_37 : decode cX4_readFigure 37 = .ok (.iaload, 1) := by decide +kernel
theorem dX4_readFigure_38 : decode cX4_readFigure 38 = .ok (.bipush 48, 2) := by decide +kernel
theorem dX4_readFigure_40 : decode cX4_readFigure 40 = .ok (.isub, 1) := by decide +kernel
theorem dX4_readFigure_41 : decode cX4_readFigure 41 = .ok (.istore_n 2, 1) := by decide +kernel
theorem dX4_readFigure_42 : decode cX4_readFigure 42 = .ok (.aload_n 0, 1) := by decide +kernel
theorem dX4_readFigure_43 : decode cX4_readFigure 43 = .ok (.dup, 1) := by decide +kernel
theorem dX4_readFigure_44 : decode cX4_readFigure 44 = .ok (.getfield 31, 3) := by decide +kernel
theorem dX4_readFigure_47 : decode cX4_readFigure 47 = .ok (.iconst 1, 1) := by decide +kernel
theorem dX4_readFigure_48 : decode cX4_readFigure 48 = .ok (.iadd, 1) := by decide +kernel
theorem dX4_readFigure_49 : decode cX4_readFigure 49 = .ok (.putfield 31, 3) := by decide +kernel
theorem dX4_readFigure_52 : decode cX4_readFigure 52 = .ok (.iload_n 2, 1) := by decide +kernel
theorem dX4_readFigure_53 : decode cX4_readFigure 53 = .ok (.ireturn, 1) := by decide +kernel
theorem dX4_readNumber_0 : decode cX4_readNumber 0 = .ok (.aload_n 0, 1) := by decide +kernel
theorem dX4_readNumber_1 : decode cX4_readNumber 1 = .ok (.invokevirtual 34, 3) := by decide +kernel
theorem dX4_readNumber_4 : decode cX4_readNumber 4 = .ok (.aload_n 0, 1) := by decide +kernel
theorem dX4_readNumber_5 : decode cX4_readNumber 5 = .ok (.getfield 31, 3) := by decide +kernel
theorem dX4_readNumber_8 : decode cX4_readNumber 8 = .ok (.istore_n 2, 1) := by decide +kernel
theorem dX4_readNumber_9 : decode cX4_readNumber 9 = .ok (.iconst 0, 1) := by decide +kernel
theorem dX4_readNumber_10 : decode cX4_readNumber 10 = .ok (.istore_n 3, 1) := by decide +kernel
theorem dX4_readNumber_11 : decode cX4_readNumber 11 = .ok (.aload_n 0, 1) := by decide +kernel
theorem dX4_readNumber_12 : decode cX4_readNumber 12 = .ok (.invokevirtual 71, 3) := by decide +kernel
theorem dX4_readNumber_15 : decode cX4_readNumber 15 = .ok (.ifCond .eq 44, 3) := by decide +kernel
theorem dX4_readNumber_18 : decode cX4_readNumber 18 = .ok (.aload_n 0, 1) := by decide +kernel
theorem dX4_readNumber_19 : decode cX4_readNumber 19 = .ok (.getfield 31, 3) := by decide +kernel
theorem dX4_readNumber_22 : decode cX4_readNumber 22 = .ok (.iload_n 2, 1) := by decide +kernel
theorem dX4_readNumber_23 : decode cX4_readNumber 23 = .ok (.iconst 3, 1) := by decide +kernel
theorem dX4_readNumber_24 : decode cX4_readNumber 24 = .ok (.iadd, 1) := by decide +kernel
theorem dX4_readNumber_25 : decode cX4_readNumber 25 = .ok (.if_icmp .ge 34, 3) := by decide +kernel
theorem dX4_readNumber_28 : decode cX4_readNumber 28 = .ok (.iload_n 3, 1) := by decide +kernel
theorem dX4_readNumber_29 : decode cX4_readNumber 29 = .ok (.bipush 10, 2) := by decide +kernel
theorem dX4_readNumber_31 : decode cX4_readNumber 31 = .ok (.imul, 1) := by decide +kernel
theorem dX4_readNumber_32 : decode cX4_readNumber 32 = .ok (.aload_n 0, 1) := by decide +kernel
theorem dX4_readNumber_33 : decode cX4_readNumber 33 = .ok (.getfield 9, 3) := by decide +kernel
theorem dX4_readNumber_36 : decode cX4_readNumber 36 = .ok (.aload_n 0, 1) := by decide +kernel
theorem dX4_readNumber_37 : decode cX4_readNumber 37 = .ok (.getfield 31, 3) := by decide +kernel
theorem dX4_readNumber_40 : decode cX4_readNumber 40 = .ok (.iaload, 1) := by decide +kernel
theorem dX4_readNumber_41 : decode cX4_readNumber 41 = .ok (.iadd, 1) := by decide +kernel
theorem dX4_readNumber_42 : decode cX4_readNumber 42 = .ok (.bipush 48, 2) := by decide +kernel
theorem dX4_readNumber_44 : decode cX4_readNumber 44 = .ok (.isub, 1) := by decide +kernel
theorem dX4_readNumber_45 : decode cX4_readNumber 45 = .ok (.istore_n 3, 1) := by decide +kernel
theorem dX4_readNumber_46 : decode cX4_readNumber 46 = .ok (.aload_n 0, 1) := by decide +kernel
theorem dX4_readNumber_47 : decode cX4_readNumber 47 = .ok (.dup, 1) := by decide +kernel
theorem dX4_readNumber_48 : decode cX4_readNumber 48 = .ok (.getfield 31, 3) := by decide +kernel
theorem dX4_readNumber_51 : decode cX4_readNumber 51 = .ok (.iconst 1, 1) := by decide +kernel
theorem dX4_readNumber_52 : decode cX4_readNumber 52 = .ok (.iadd, 1) := by decide +kernel
theorem dX4_readNumber_53 : decode cX4_readNumber 53 = .ok (.putfield 31, 3) := by decide +kernel
theorem dX4_readNumber_56 : decode cX4_readNumber 56 = .ok (.goto (-45), 3) := by decide +kernel
theorem dX4_readNumber_59 : decode cX4_readNumber 59 = .ok (.aload_n 0, 1) := by decide +kernel
theorem dX4_readNumber_60 : decode cX4_readNumber 60 = .ok (.getfield 31, 3) := by decide +kernel

theorem dX10_bad_0 : decode cX10_bad 0 = .ok (.aload_n 0, 1) := by decide +kernel
theorem dX10_bad_1 : decode cX10_bad 1 = .ok (.getfield 1, 3) := by decide +kernel
theorem dX10_bad_4 : decode cX10_bad 4 = .ok (.iconst 0, 1) := by decide +kernel
theorem dX10_bad_5 : decode cX10_bad 5 = .ok (.dup2, 1) := by decide +kernel
theorem dX10_bad_6 : decode cX10_bad 6 = .ok (.iaload, 1) := by decide +kernel
theorem dX10_bad_7 : decode cX10_bad 7 = .ok (.iconst 1, 1) := by decide +kernel
theorem dX10_bad_8 : decode cX10_bad 8 = .ok (.iadd, 1) := by decide +kernel
theorem dX10_bad_9 : decode cX10_bad 9 = .ok (.iastore, 1) := by decide +kernel
theorem dX10_bad_10 : decode cX10_bad 10 = .ok (.bipush (-2), 2) := by decide +kernel
theorem dX10_bad_12 : decode cX10_bad 12 = .ok (.ireturn, 1) := by decide +kernel
theorem dX10_ten_0 : decode cX10_ten 0 = .ok (.aload_n 0, 1) := by decide +kernel
theorem dX10_ten_1 : decode cX10_ten 1 = .ok (.getfield 1, 3) := by decide +kernel
theorem dX10_ten_4 : decode cX10_ten 4 = .ok (.iconst 0, 1) := by decide +kernel
theorem dX10_ten_5 : decode cX10_ten 5 = .ok (.dup2, 1) := by decide +kernel
theorem dX10_ten_6 : decode cX10_ten 6 = .ok (.iaload, 1) := by decide +kernel
theorem dX10_ten_7 : decode cX10_ten 7 = .ok (.iconst 1, 1) := by decide +kernel
theorem dX10_ten_8 : decode cX10_ten 8 = .ok (.iadd, 1) := by decide +kernel
theorem dX10_ten_9 : decode cX10_ten 9 = .ok (.iastore, 1) := by decide +kernel
theorem dX10_ten_10 : decode cX10_ten 10 = .ok (.bipush (-10), 2) := by decide +kernel
theorem dX10_ten_12 : decode cX10_ten 12 = .ok (.ireturn, 1) := by decide +kernel
theorem dX10_no_0 : decode cX10_no 0 = .ok (.aload_n 0, 1) := by decide +kernel
theorem dX10_no_1 : decode cX10_no 1 = .ok (.getfield 1, 3) := by decide +kernel
theorem dX10_no_4 : decode cX10_no 4 = .ok (.iconst 1, 1) := by decide +kernel
theorem dX10_no_5 : decode cX10_no 5 = .ok (.dup2, 1) := by decide +kernel
theorem dX10_no_6 : decode cX10_no 6 = .ok (.iaload, 1) := by decide +kernel
theorem dX10_no_7 : decode cX10_no 7 = .ok (.iconst 1, 1) := by decide +kernel
theorem dX10_no_8 : decode cX10_no 8 = .ok (.iadd, 1) := by decide +kernel
theorem dX10_no_9 : decode cX10_no 9 = .ok (.iastore, 1) := by decide +kernel
theorem dX10_no_10 : decode cX10_no 10 = .ok (.bipush (-3), 2) := by decide +kernel
theorem dX10_no_12 : decode cX10_no 12 = .ok (.ireturn, 1) := by decide +kernel
theorem dX10_full_0 : decode cX10_full 0 = .ok (.aload_n 0, 1) := by decide +kernel
theorem dX10_full_1 : decode cX10_full 1 = .ok (.getfield 1, 3) := by decide +kernel
theorem dX10_full_4 : decode cX10_full 4 = .ok (.iconst 2, 1) := by decide +kernel
theorem dX10_full_5 : decode cX10_full 5 = .ok (.dup2, 1) := by decide +kernel
theorem dX10_full_6 : decode cX10_full 6 = .ok (.iaload, 1) := by decide +kernel
theorem dX10_full_7 : decode cX10_full 7 = .ok (.iconst 1, 1) := by decide +kernel
theorem dX10_full_8 : decode cX10_full 8 = .ok (.iadd, 1) := by decide +kernel
theorem dX10_full_9 : decode cX10_full 9 = .ok (.iastore, 1) := by decide +kernel
theorem dX10_full_10 : decode cX10_full 10 = .ok (.bipush (-4), 2) := by decide +kernel
theorem dX10_full_12 : decode cX10_full 12 = .ok (.ireturn, 1) := by decide +kernel
theorem dX10_in_0 : decode cX10_in 0 = .ok (.iload_n 0, 1) := by decide +kernel
theorem dX10_in_1 : decode cX10_in 1 = .ok (.iload_n 1, 1) := by decide +kernel
theorem dX10_in_2 : decode cX10_in 2 = .ok (.if_icmp .lt 12, 3) := by decide +kernel
theorem dX10_in_5 : decode cX10_in 5 = .ok (.iload_n 0, 1) := by decide +kernel
theorem dX10_in_6 : decode cX10_in 6 = .ok (.iload_n 2, 1) := by decide +kernel
theorem dX10_in_7 : decode cX10_in 7 = .ok (.if_icmp .gt 7, 3) := by decide +kernel
theorem dX10_in_10 : decode cX10_in 10 = .ok (.iconst 1, 1) := by decide +kernel
theorem dX10_in_11 : decode cX10_in 11 = .ok (.goto 4, 3) := by decide +kernel
theorem dX10_in_14 : decode cX10_in 14 = .ok (.iconst 0, 1) := by decide +kernel
theorem dX10_in_15 : decode cX10_in 15 = .ok (.ireturn, 1) := by decide +kernel
theorem dX10_has_0 : decode cX10_has 0 = .ok (.iload_n 0, 1) := by decide +kernel
theorem dX10_has_1 : decode cX10_has 1 = .ok (.iload_n 1, 1) := by decide +kernel
theorem dX10_has_2 : decode cX10_has 2 = .ok (.ishr, 1) := by decide +kernel
theorem dX10_has_3 : decode cX10_has 3 = .ok (.iconst 1, 1) := by decide +kernel
theorem dX10_has_4 : decode cX10_has 4 = .ok (.iand, 1) := by decide +kernel
theorem dX10_has_5 : decode cX10_has 5 = .ok (.iconst 1, 1) := by decide +kernel
theorem dX10_has_6 : decode cX10_has 6 = .ok (.if_icmp .ne 7, 3) := by decide +kernel
theorem dX10_has_9 : decode cX10_has 9 = .ok (.iconst 1, 1) := by decide +kernel
theorem dX10_has_10 : decode cX10_has 10 = .ok (.goto 4, 3) := by decide +kernel
theorem dX10_has_13 : decode cX10_has 13 = .ok (.iconst 0, 1) := by decide +kernel
theorem dX10_has_14 : decode cX10_has 14 = .ok (.ireturn, 1) := by decide +kernel
theorem dX10_bits_0 : decode cX10_bits 0 = .ok (.iconst 0, 1) := by decide +kernel
theorem dX10_bits_1 : decode cX10_bits 1 = .ok (.istore_n 1, 1) := by decide +kernel
theorem dX10_bits_2 : decode cX10_bits 2 = .ok (.iconst 0, 1) := by decide +kernel
theorem dX10_bits_3 : decode cX10_bits 3 = .ok (.istore_n 2, 1) := by decide +kernel
theorem dX10_bits_4 : decode cX10_bits 4 = .ok (.iload_n 2, 1) := by decide +kernel
theorem dX10_bits_5 : decode cX10_bits 5 = .ok (.bipush 12, 2) := by decide +kernel
theorem dX10_bits_7 : decode cX10_bits 7 = .ok (.if_icmp .ge 17, 3) := by decide +kernel
theorem dX10_bits_10 : decode cX10_bits 10 = .ok (.iload_n 1, 1) := by decide +kernel
theorem dX10_bits_11 : decode cX10_bits 11 = .ok (.iload_n 0, 1) := by decide +kernel
theorem dX10_bits_12 : decode cX10_bits 12 = .ok (.iload_n 2, 1) := by decide +kernel
theorem dX10_bits_13 : decode cX10_bits 13 = .ok (.ishr, 1) := by decide +kernel
theorem dX10_bits_14 : decode cX10_bits 14 = .ok (.iconst 1, 1) := by decide +kernel
theorem dX10_bits_15 : decode cX10_bits 15 = .ok (.iand, 1) := by decide +kernel
theorem dX10_bits_16 : decode cX10_bits 16 = .ok (.iadd, 1) := by decide +kernel
theorem dX10_bits_17 : decode cX10_bits 17 = .ok (.istore_n 1, 1) := by decide +kernel
theorem dX10_bits_18 : decode cX10_bits 18 = .ok (.iinc 2 1, 3) := by decide +kernel
theorem dX10_bits_21 : decode cX10_bits 21 = .ok (.goto (-17), 3) := by decide +kernel
theorem dX10_bits_24 : decode cX10_bits 24 = .ok (.iload_n 1, 1) := by decide +kernel
theorem dX10_bits_25 : decode cX10_bits 25 = .ok (.ireturn, 1) := by decide +kernel
theorem dX10_init_0 : decode cX10_init 0 = .ok (.aload_n 0, 1) := by decide +kernel
theorem dX10_init_1 : decode cX10_init 1 = .ok (.invokespecial 7, 3) := by decide +kernel
theorem dX10_init_4 : decode cX10_init 4 = .ok (.aload_n 0, 1) := by decide +kernel
theorem dX10_init_5 : decode cX10_init 5 = .ok (.iconst 3, 1) := by decide +kernel
theorem dX10_init_6 : decode cX10_init 6 = .ok (.newarray .int, 2) := by decide +kernel
theorem dX10_init_8 : decode cX10_init 8 = .ok (.putfield 1, 3) := by decide +kernel
theorem dX10_init_11 : decode cX10_init 11 = .ok (.aload_n 0, 1) := by decide +kernel
theorem dX10_init_12 : decode cX10_init 12 = .ok (.iconst 5, 1) := by decide +kernel
theorem dX10_init_13 : decode cX10_init 13 = .ok (.newarray .int, 2) := by decide +kernel
theorem dX10_init_15 : decode cX10_init 15 = .ok (.putfield 13, 3) := by decide +kernel
theorem dX10_init_18 : decode cX10_init 18 = .ok (.aload_n 0, 1) := by decide +kernel
theorem dX10_init_19 : decode cX10_init 19 = .ok (.iconst 5, 1) := by decide +kernel
theorem dX10_init_20 : decode cX10_init 20 = .ok (.newarray .int, 2) := by decide +kernel
theorem dX10_init_22 : decode cX10_init 22 = .ok (.putfield 16, 3) := by decide +kernel
theorem dX10_init_25 : decode cX10_init 25 = .ok (.aload_n 0, 1) := by decide +kernel
theorem dX10_init_26 : decode cX10_init 26 = .ok (.iconst 5, 1) := by decide +kernel
theorem dX10_init_27 : decode cX10_init 27 = .ok (.newarray .int, 2) := by decide +kernel
theorem dX10_init_29 : decode cX10_init 29 = .ok (.putfield 19, 3) := by decide +kernel
theorem dX10_init_32 : decode cX10_init 32 = .ok (.aload_n 0, 1) := by decide +kernel
theorem dX10_init_33 : decode cX10_init 33 = .ok (.bipush 12, 2) := by decide +kernel
theorem dX10_init_35 : decode cX10_init 35 = .ok (.newarray .int, 2) := by decide +kernel
theorem dX10_init_37 : decode cX10_init 37 = .ok (.putfield 22, 3) := by decide +kernel
theorem dX10_init_40 : decode cX10_init 40 = .ok (.aload_n 0, 1) := by decide +kernel
theorem dX10_init_41 : decode cX10_init 41 = .ok (.bipush 6, 2) := by decide +kernel
theorem dX10_init_43 : decode cX10_init 43 = .ok (.newarray .int, 2) := by decide +kernel
theorem dX10_init_45 : decode cX10_init 45 = .ok (.putfield 25, 3) := by decide +kernel
theorem dX10_init_48 : decode cX10_init 48 = .ok (.aload_n 0, 1) := by decide +kernel
theorem dX10_init_49 : decode cX10_init 49 = .ok (.bipush 6, 2) := by decide +kernel
theorem dX10_init_51 : decode cX10_init 51 = .ok (.newarray .int, 2) := by decide +kernel
theorem dX10_init_53 : decode cX10_init 53 = .ok (.putfield 28, 3) := by decide +kernel
theorem dX10_init_56 : decode cX10_init 56 = .ok (.aload_n 0, 1) := by decide +kernel
theorem dX10_init_57 : decode cX10_init 57 = .ok (.bipush 6, 2) := by decide +kernel
theorem dX10_init_59 : decode cX10_init 59 = .ok (.newarray .int, 2) := by decide +kernel
theorem dX10_init_61 : decode cX10_init 61 = .ok (.putfield 31, 3) := by decide +kernel
theorem dX10_init_64 : decode cX10_init 64 = .ok (.aload_n 0, 1) := by decide +kernel
theorem dX10_init_65 : decode cX10_init 65 = .ok (.bipush 6, 2) := by decide +kernel
theorem dX10_init_67 : decode cX10_init 67 = .ok (.newarray .int, 2) := by decide +kernel
theorem dX10_init_69 : decode cX10_init 69 = .ok (.putfield 34, 3) := by decide +kernel
theorem dX10_init_72 : decode cX10_init 72 = .ok (.aload_n 0, 1) := by decide +kernel
theorem dX10_init_73 : decode cX10_init 73 = .ok (.sipush 150, 3) := by decide +kernel
theorem dX10_init_76 : decode cX10_init 76 = .ok (.newarray .int, 2) := by decide +kernel
theorem dX10_init_78 : decode cX10_init 78 = .ok (.putfield 37, 3) := by decide +kernel
theorem dX10_init_81 : decode cX10_init 81 = .ok (.aload_n 0, 1) := by decide +kernel
theorem dX10_init_82 : decode cX10_init 82 = .ok (.bipush 15, 2) := by decide +kernel
theorem dX10_init_84 : decode cX10_init 84 = .ok (.newarray .int, 2) := by decide +kernel
theorem dX10_init_86 : decode cX10_init 86 = .ok (.putfield 40, 3) := by decide +kernel
theorem dX10_init_89 : decode cX10_init 89 = .ok (.aload_n 0, 1) := by decide +kernel
theorem dX10_init_90 : decode cX10_init 90 = .ok (.bipush 12, 2) := by decide +kernel
theorem dX10_init_92 : decode cX10_init 92 = .ok (.newarray .int, 2) := by decide +kernel
theorem dX10_init_94 : decode cX10_init 94 = .ok (.putfield 43, 3) := by decide +kernel
theorem dX10_init_97 : decode cX10_init 97 = .ok (.aload_n 0, 1) := by decide +kernel
theorem dX10_init_98 : decode cX10_init 98 = .ok (.sipush 136, 3) := by decide +kernel
theorem dX10_init_101 : decode cX10_init 101 = .ok (.newarray .int, 2) := by decide +kernel
theorem dX10_init_103 : decode cX10_init 103 = .ok (.putfield 46, 3) := by decide +kernel
theorem dX10_init_106 : decode cX10_init 106 = .ok (.aload_n 0, 1) := by decide +kernel
theorem dX10_init_107 : decode cX10_init 107 = .ok (.iconst 5, 1) := by decide +kernel
theorem dX10_init_108 : decode cX10_init 108 = .ok (.newarray .int, 2) := by decide +kernel
theorem dX10_init_110 : decode cX10_init 110 = .ok (.putfield 49, 3) := by decide +kernel
theorem dX10_init_113 : decode cX10_init 113 = .ok (.aload_n 0, 1) := by decide +kernel
theorem dX10_init_114 : decode cX10_init 114 = .ok (.iconst 5, 1) := by decide +kernel
theorem dX10_init_115 : decode cX10_init 115 = .ok (.newarray .int, 2) := by decide +kernel
theorem dX10_init_117 : decode cX10_init 117 = .ok (.putfield 52, 3) := by decide +kernel
theorem dX10_init_120 : decode cX10_init 120 = .ok (.aload_n 0, 1) := by decide +kernel
theorem dX10_init_121 : decode cX10_init 121 = .ok (.bipush 12, 2) := by decide +kernel
theorem dX10_init_123 : decode cX10_init 123 = .ok (.newarray .int, 2) := by decide +kernel
theorem dX10_init_125 : decode cX10_init 125 = .ok (.putfield 55, 3) := by decide +kernel
theorem dX10_init_128 : decode cX10_init 128 = .ok (.aload_n 0, 1) := by decide +kernel
theorem dX10_init_129 : decode cX10_init 129 = .ok (.lconst 1, 1) := by decide +kernel
theorem dX10_init_130 : decode cX10_init 130 = .ok (.putfield 58, 3) := by decide +kernel
theorem dX10_init_133 : decode cX10_init 133 = .ok (.aload_n 0, 1) := by decide +kernel
theorem dX10_init_134 : decode cX10_init 134 = .ok (.sipush 384, 3) := by decide +kernel
theorem dX10_init_137 : decode cX10_init 137 = .ok (.newarray .int, 2) := by decide +kernel
theorem dX10_init_139 : decode cX10_init 139 = .ok (.putfield 62, 3) := by decide +kernel
theorem dX10_init_142 : decode cX10_init 142 = .ok (.aload_n 0, 1) := by decide +kernel
theorem dX10_init_143 : decode cX10_init 143 = .ok (.iconst 2, 1) := by decide +kernel
theorem dX10_init_144 : decode cX10_init 144 = .ok (.newarray .int, 2) := by decide +kernel
theorem dX10_init_146 : decode cX10_init 146 = .ok (.putfield 65, 3) := by decide +kernel
theorem dX10_init_149 : decode cX10_init 149 = .ok (.aload_n 0, 1) := by decide +kernel
theorem dX10_init_150 : decode cX10_init 150 = .ok (.invokevirtual 68, 3) := by decide +kernel
theorem dX10_init_153 : decode cX10_init 153 = .ok (.return_, 1) := by decide +kernel
theorem dX10_begin_0 : decode cX10_begin 0 = .ok (.aload_n 0, 1) := by decide +kernel
theorem dX10_begin_1 : decode cX10_begin 1 = .ok (.iconst 0, 1) := by decide +kernel
theorem dX10_begin_2 : decode cX10_begin 2 = .ok (.putfield 71, 3) := by decide +kernel
theorem dX10_begin_5 : decode cX10_begin 5 = .ok (.aload_n 0, 1) := by decide +kernel
theorem dX10_begin_6 : decode cX10_begin 6 = .ok (.iconst 0, 1) := by decide +kernel
theorem dX10_begin_7 : decode cX10_begin 7 = .ok (.putfield 75, 3) := by decide +kernel
theorem dX10_begin_10 : decode cX10_begin 10 = .ok (.aload_n 0, 1) := by decide +kernel
theorem dX10_begin_11 : decode cX10_begin 11 = .ok (.iconst 0, 1) := by decide +kernel
theorem dX10_begin_12 : decode cX10_begin 12 = .ok (.putfield 78, 3) := by decide +kernel
theorem dX10_begin_15 : decode cX10_begin 15 = .ok (.iconst 0, 1) := by decide +kernel
theorem dX10_begin_16 : decode cX10_begin 16 = .ok (.istore_n 1, 1) := by decide +kernel
theorem dX10_begin_17 : decode cX10_begin 17 = .ok (.iload_n 1, 1) := by decide +kernel
theorem dX10_begin_18 : decode cX10_begin 18 = .ok (.bipush 12, 2) := by decide +kernel
theorem dX10_begin_20 : decode cX10_begin 20 = .ok (.if_icmp .ge 16, 3) := by decide +kernel
theorem dX10_begin_23 : decode cX10_begin 23 = .ok (.aload_n 0, 1) := by decide +kernel
theorem dX10_begin_24 : decode cX10_begin 24 = .ok (.getfield 22, 3) := by decide +kernel
theorem dX10_begin_27 : decode cX10_begin 27 = .ok (.iload_n 1, 1) := by decide +kernel
theorem dX10_begin_28 : decode cX10_begin 28 = .ok (.iconst (-1), 1) := by decide +kernel
theorem dX10_begin_29 : decode cX10_begin 29 = .ok (.iastore, 1) := by decide +kernel
theorem dX10_begin_30 : decode cX10_begin 30 = .ok (.iinc 1 1, 3) := by decide +kernel
theorem dX10_begin_33 : decode cX10_begin 33 = .ok (.goto (-16), 3) := by decide +kernel
theorem dX10_begin_36 : decode cX10_begin 36 = .ok (.return_, 1) := by decide +kernel
theorem dX10_isBoy_0 : decode cX10_isBoy 0 = .ok (.iload_n 1, 1) := by decide +kernel
theorem dX10_isBoy_1 : decode cX10_isBoy 1 = .ok (.iconst 0, 1) := by decide +kernel
theorem dX10_isBoy_2 : decode cX10_isBoy 2 = .ok (.aload_n 0, 1) := by decide +kernel
theorem dX10_isBoy_3 : decode cX10_isBoy 3 = .ok (.getfield 71, 3) := by decide +kernel
theorem dX10_isBoy_6 : decode cX10_isBoy 6 = .ok (.iconst 1, 1) := by decide +kernel
theorem dX10_isBoy_7 : decode cX10_isBoy 7 = .ok (.isub, 1) := by decide +kernel
theorem dX10_isBoy_8 : decode cX10_isBoy 8 = .ok (.invokestatic 81, 3) := by decide +kernel
theorem dX10_isBoy_11 : decode cX10_isBoy 11 = .ok (.ireturn, 1) := by decide +kernel
theorem dX10_isCell_0 : decode cX10_isCell 0 = .ok (.iload_n 0, 1) := by decide +kernel
theorem dX10_isCell_1 : decode cX10_isCell 1 = .ok (.iconst 0, 1) := by decide +kernel
theorem dX10_isCell_2 : decode cX10_isCell 2 = .ok (.bipush 11, 2) := by decide +kernel
theorem dX10_isCell_4 : decode cX10_isCell 4 = .ok (.invokestatic 81, 3) := by decide +kernel
theorem dX10_isCell_7 : decode cX10_isCell 7 = .ok (.ireturn, 1) := by decide +kernel
theorem dX10_night_0 : decode cX10_night 0 = .ok (.aload_n 0, 1) := by decide +kernel
theorem dX10_night_1 : decode cX10_night 1 = .ok (.getfield 71, 3) := by decide +kernel
theorem dX10_night_4 : decode cX10_night 4 = .ok (.istore_n 1, 1) := by decide +kernel
theorem dX10_night_5 : decode cX10_night 5 = .ok (.aload_n 0, 1) := by decide +kernel
theorem dX10_night_6 : decode cX10_night 6 = .ok (.invokevirtual 68, 3) := by decide +kernel
theorem dX10_night_9 : decode cX10_night 9 = .ok (.iload_n 1, 1) := by decide +kernel
theorem dX10_night_10 : decode cX10_night 10 = .ok (.ireturn, 1) := by decide +kernel
theorem dX10_addBoy_0 : decode cX10_addBoy 0 = .ok (.aload_n 0, 1) := by decide +kernel
theorem dX10_addBoy_1 : decode cX10_addBoy 1 = .ok (.getfield 13, 3) := by decide +kernel
theorem dX10_addBoy_4 : decode cX10_addBoy 4 = .ok (.aload_n 0, 1) := by decide +kernel
theorem dX10_addBoy_5 : decode cX10_addBoy 5 = .ok (.getfield 71, 3) := by decide +kernel
theorem dX10_addBoy_8 : decode cX10_addBoy 8 = .ok (.iload_n 1, 1) := by decide +kernel
theorem dX10_addBoy_9 : decode cX10_addBoy 9 = .ok (.iastore, 1) := by decide +kernel
theorem dX10_addBoy_10 : decode cX10_addBoy 10 = .ok (.aload_n 0, 1) := by decide +kernel
theorem dX10_addBoy_11 : decode cX10_addBoy 11 = .ok (.getfield 16, 3) := by decide +kernel
theorem dX10_addBoy_14 : decode cX10_addBoy 14 = .ok (.aload_n 0, 1) := by decide +kernel
theorem dX10_addBoy_15 : decode cX10_addBoy 15 = .ok (.getfield 71, 3) := by decide +kernel
theorem dX10_addBoy_18 : decode cX10_addBoy 18 = .ok (.iload_n 2, 1) := by decide +kernel
theorem dX10_addBoy_19 : decode cX10_addBoy 19 = .ok (.iastore, 1) := by decide +kernel
theorem dX10_addBoy_20 : decode cX10_addBoy 20 = .ok (.aload_n 0, 1) := by decide +kernel
theorem dX10_addBoy_21 : decode cX10_addBoy 21 = .ok (.getfield 19, 3) := by decide +kernel
theorem dX10_addBoy_24 : decode cX10_addBoy 24 = .ok (.aload_n 0, 1) := by decide +kernel
theorem dX10_addBoy_25 : decode cX10_addBoy 25 = .ok (.getfield 71, 3) := by decide +kernel
theorem dX10_addBoy_28 : decode cX10_addBoy 28 = .ok (.iload_n 3, 1) := by decide +kernel
theorem dX10_addBoy_29 : decode cX10_addBoy 29 = .ok (.iastore, 1) := by decide +kernel
theorem dX10_addBoy_30 : decode cX10_addBoy 30 = .ok (.aload_n 0, 1) := by decide +kernel
theorem dX10_addBoy_31 : decode cX10_addBoy 31 = .ok (.dup, 1) := by decide +kernel
theorem dX10_addBoy_32 : decode cX10_addBoy 32 = .ok (.getfield 71, 3) := by decide +kernel
theorem dX10_addBoy_35 : decode cX10_addBoy 35 = .ok (.iconst 1, 1) := by decide +kernel
theorem dX10_addBoy_36 : decode cX10_addBoy 36 = .ok (.iadd, 1) := by decide +kernel
theorem dX10_addBoy_37 : decode cX10_addBoy 37 = .ok (.putfield 71, 3) := by decide +kernel
theorem dX10_addBoy_40 : decode cX10_addBoy 40 = .ok (.aload_n 0, 1) := by decide +kernel
theorem dX10_addBoy_41 : decode cX10_addBoy 41 = .ok (.iconst 0, 1) := by decide +kernel
theorem dX10_addBoy_42 : decode cX10_addBoy 42 = .ok (.putfield 78, 3) := by decide +kernel
theorem dX10_addBoy_45 : decode cX10_addBoy 45 = .ok (.aload_n 0, 1) := by decide +kernel
theorem dX10_addBoy_46 : decode cX10_addBoy 46 = .ok (.getfield 71, 3) := by decide +kernel
theorem dX10_addBoy_49 : decode cX10_addBoy 49 = .ok (.iconst 1, 1) := by decide +kernel
theorem dX10_addBoy_50 : decode cX10_addBoy 50 = .ok (.isub, 1) := by decide +kernel
theorem dX10_addBoy_51 : decode cX10_addBoy 51 = .ok (.ireturn, 1) := by decide +kernel
theorem dX10_boy_0 : decode cX10_boy 0 = .ok (.iload_n 1, 1) := by decide +kernel
theorem dX10_boy_1 : decode cX10_boy 1 = .ok (.iconst 0, 1) := by decide +kernel
theorem dX10_boy_2 : decode cX10_boy 2 = .ok (.iconst 5, 1) := by decide +kernel
theorem dX10_boy_3 : decode cX10_boy 3 = .ok (.invokestatic 81, 3) := by decide +kernel
theorem dX10_boy_6 : decode cX10_boy 6 = .ok (.ifCond .eq 23, 3) := by decide +kernel
theorem dX10_boy_9 : decode cX10_boy 9 = .ok (.iload_n 2, 1) := by decide +kernel
theorem dX10_boy_10 : decode cX10_boy 10 = .ok (.iconst 0, 1) := by decide +kernel
theorem dX10_boy_11 : decode cX10_boy 11 = .ok (.bipush 12, 2) := by decide +kernel
theorem dX10_boy_13 : decode cX10_boy 13 = .ok (.invokestatic 81, 3) := by decide +kernel
theorem dX10_boy_16 : decode cX10_boy 16 = .ok (.ifCond .eq 13, 3) := by decide +kernel
theorem dX10_boy_19 : decode cX10_boy 19 = .ok (.iload_n 3, 1) := by decide +kernel
theorem dX10_boy_20 : decode cX10_boy 20 = .ok (.iconst 0, 1) := by decide +kernel
theorem dX10_boy_21 : decode cX10_boy 21 = .ok (.bipush 40, 2) := by decide +kernel
theorem dX10_boy_23 : decode cX10_boy 23 = .ok (.invokestatic 81, 3) := by decide +kernel
theorem dX10_boy_26 : decode cX10_boy 26 = .ok (.ifCond .ne 8, 3) := by decide +kernel
theorem dX10_boy_29 : decode cX10_boy 29 = .ok (.aload_n 0, 1) := by decide +kernel
theorem dX10_boy_30 : decode cX10_boy 30 = .ok (.invokevirtual 85, 3) := by decide +kernel
theorem dX10_boy_33 : decode cX10_boy 33 = .ok (.ireturn, 1) := by decide +kernel
theorem dX10_boy_34 : decode cX10_boy 34 = .ok (.aload_n 0, 1) := by decide +kernel
theorem dX10_boy_35 : decode cX10_boy 35 = .ok (.getfield 71, 3) := by decide +kernel
theorem dX10_boy_38 : decode cX10_boy 38 = .ok (.iconst 5, 1) := by decide +kernel
theorem dX10_boy_39 : decode cX10_boy 39 = .ok (.if_icmp .ne 10, 3) := by decide +kernel
theorem dX10_boy_42 : decode cX10_boy 42 = .ok (.aload_n 0, 1) := by decide +kernel
theorem dX10_boy_43 : decode cX10_boy 43 = .ok (.invokevirtual 89, 3) := by decide +kernel
theorem dX10_boy_46 : decode cX10_boy 46 = .ok (.goto 10, 3) := by decide +kernel
theorem dX10_boy_49 : decode cX10_boy 49 = .ok (.aload_n 0, 1) := by decide +kernel
theorem dX10_boy_50 : decode cX10_boy 50 = .ok (.iload_n 1, 1) := by decide +kernel
theorem dX10_boy_51 : decode cX10_boy 51 = .ok (.iload_n 2, 1) := by decide +kernel
theorem dX10_boy_52 : decode cX10_boy 52 = .ok (.iload_n 3, 1) := by decide +kernel
theorem dX10_boy_53 : decode cX10_boy 53 = .ok (.invokevirtual 92, 3) := by decide +kernel
theorem dX10_boy_56 : decode cX10_boy 56 = .ok (.ireturn, 1) := by decide +kernel
theorem dX10_type_0 : decode cX10_type 0 = .ok (.iload_n 1, 1) := by decide +kernel
theorem dX10_type_1 : decode cX10_type 1 = .ok (.iconst 0, 1) := by decide +kernel
theorem dX10_type_2 : decode cX10_type 2 = .ok (.bipush 127, 2) := by decide +kernel
theorem dX10_type_4 : decode cX10_type 4 = .ok (.invokestatic 81, 3) := by decide +kernel
theorem dX10_type_7 : decode cX10_type 7 = .ok (.ifCond .ne 8, 3) := by decide +kernel
theorem dX10_type_10 : decode cX10_type 10 = .ok (.aload_n 0, 1) := by decide +kernel
theorem dX10_type_11 : decode cX10_type 11 = .ok (.invokevirtual 85, 3) := by decide +kernel
theorem dX10_type_14 : decode cX10_type 14 = .ok (.ireturn, 1) := by decide +kernel
theorem dX10_type_15 : decode cX10_type 15 = .ok (.aload_n 0, 1) := by decide +kernel
theorem dX10_type_16 : decode cX10_type 16 = .ok (.getfield 96, 3) := by decide +kernel
theorem dX10_type_19 : decode cX10_type 19 = .ok (.sipush 150, 3) := by decide +kernel
theorem dX10_type_22 : decode cX10_type 22 = .ok (.if_icmp .ne 8, 3) := by decide +kernel
theorem dX10_type_25 : decode cX10_type 25 = .ok (.aload_n 0, 1) := by decide +kernel
theorem dX10_type_26 : decode cX10_type 26 = .ok (.invokevirtual 89, 3) := by decide +kernel
theorem dX10_type_29 : decode cX10_type 29 = .ok (.ireturn, 1) := by decide +kernel
theorem dX10_type_30 : decode cX10_type 30 = .ok (.aload_n 0, 1) := by decide +kernel
theorem dX10_type_31 : decode cX10_type 31 = .ok (.getfield 37, 3) := by decide +kernel
theorem dX10_type_34 : decode cX10_type 34 = .ok (.aload_n 0, 1) := by decide +kernel
theorem dX10_type_35 : decode cX10_type 35 = .ok (.getfield 96, 3) := by decide +kernel
theorem dX10_type_38 : decode cX10_type 38 = .ok (.iload_n 1, 1) := by decide +kernel
theorem dX10_type_39 : decode cX10_type 39 = .ok (.iastore, 1) := by decide +kernel
theorem dX10_type_40 : decode cX10_type 40 = .ok (.aload_n 0, 1) := by decide +kernel
theorem dX10_type_41 : decode cX10_type 41 = .ok (.dup, 1) := by decide +kernel
theorem dX10_type_42 : decode cX10_type 42 = .ok (.getfield 96, 3) := by decide +kernel
theorem dX10_type_45 : decode cX10_type 45 = .ok (.iconst 1, 1) := by decide +kernel
theorem dX10_type_46 : decode cX10_type 46 = .ok (.iadd, 1) := by decide +kernel
theorem dX10_type_47 : decode cX10_type 47 = .ok (.putfield 96, 3) := by decide +kernel
theorem dX10_type_50 : decode cX10_type 50 = .ok (.aload_n 0, 1) := by decide +kernel
theorem dX10_type_51 : decode cX10_type 51 = .ok (.getfield 96, 3) := by decide +kernel
theorem dX10_type_54 : decode cX10_type 54 = .ok (.ireturn, 1) := by decide +kernel
theorem dX10_clear_0 : decode cX10_clear 0 = .ok (.aload_n 0, 1) := by decide +kernel
theorem dX10_clear_1 : decode cX10_clear 1 = .ok (.getfield 96, 3) := by decide +kernel
theorem dX10_clear_4 : decode cX10_clear 4 = .ok (.istore_n 1, 1) := by decide +kernel
theorem dX10_clear_5 : decode cX10_clear 5 = .ok (.aload_n 0, 1) := by decide +kernel
theorem dX10_clear_6 : decode cX10_clear 6 = .ok (.iconst 0, 1) := by decide +kernel
theorem dX10_clear_7 : decode cX10_clear 7 = .ok (.putfield 96, 3) := by decide +kernel
theorem dX10_clear_10 : decode cX10_clear 10 = .ok (.iload_n 1, 1) := by decide +kernel
theorem dX10_clear_11 : decode cX10_clear 11 = .ok (.ireturn, 1) := by decide +kernel
theorem dX10_here_0 : decode cX10_here 0 = .ok (.aload_n 0, 1) := by decide +kernel
theorem dX10_here_1 : decode cX10_here 1 = .ok (.getfield 99, 3) := by decide +kernel
theorem dX10_here_4 : decode cX10_here 4 = .ok (.aload_n 0, 1) := by decide +kernel
theorem dX10_here_5 : decode cX10_here 5 = .ok (.getfield 96, 3) := by decide +kernel
theorem dX10_here_8 : decode cX10_here 8 = .ok (.if_icmp .ge 15, 3) := by decide +kernel
theorem dX10_here_11 : decode cX10_here 11 = .ok (.aload_n 0, 1) := by decide +kernel
theorem dX10_here_12 : decode cX10_here 12 = .ok (.getfield 37, 3) := by decide +kernel
theorem dX10_here_15 : decode cX10_here 15 = .ok (.aload_n 0, 1) := by decide +kernel
theorem dX10_here_16 : decode cX10_here 16 = .ok (.getfield 99, 3) := by decide +kernel
theorem dX10_here_19 : decode cX10_here 19 = .ok (.iaload, 1) := by decide +kernel
theorem dX10_here_20 : decode cX10_here 20 = .ok (.goto 4, 3) := by decide +kernel
theorem dX10_here_23 : decode cX10_here 23 = .ok (.iconst (-1), 1) := by decide +kernel
theorem dX10_here_24 : decode cX10_here 24 = .ok (.ireturn, 1) := by decide +kernel
theorem dX10_skip_0 : decode cX10_skip 0 = .ok (.aload_n 0, 1) := by decide +kernel
theorem dX10_skip_1 : decode cX10_skip 1 = .ok (.invokevirtual 102, 3) := by decide +kernel
theorem dX10_skip_4 : decode cX10_skip 4 = .ok (.bipush 32, 2) := by decide +kernel
theorem dX10_skip_6 : decode cX10_skip 6 = .ok (.if_icmp .ne 16, 3) := by decide +kernel
theorem dX10_skip_9 : decode cX10_skip 9 = .ok (.aload_n 0, 1) := by decide +kernel
theorem dX10_skip_10 : decode cX10_skip 10 = .ok (.dup, 1) := by decide +kernel
theorem dX10_skip_11 : decode cX10_skip 11 = .ok (.getfield 99, 3) := by decide +kernel
theorem dX10_skip_14 : decode cX10_skip 14 = .ok (.iconst 1, 1) := by decide +kernel
theorem dX10_skip_15 : decode cX10_skip 15 = .ok (.iadd, 1) := by decide +kernel
theorem dX10_skip_16 : decode cX10_skip 16 = .ok (.putfield 99, 3) := by decide +kernel
theorem dX10_skip_19 : decode cX10_skip 19 = .ok (.goto (-19), 3) := by decide +kernel
theorem dX10_skip_22 : decode cX10_skip 22 = .ok (.return_, 1) := by decide +kernel
theorem dX10_isLetter_0 : decode cX10_isLetter 0 = .ok (.iload_n 0, 1) := by decide +kernel
theorem dX10_isLetter_1 : decode cX10_isLetter 1 = .ok (.bipush 97, 2) := by decide +kernel
theorem dX10_isLetter_3 : decode cX10_isLetter 3 = .ok (.bipush 122, 2) := by decide +kernel
theorem dX10_isLetter_5 : decode cX10_isLetter 5 = .ok (.invokestatic 81, 3) := by decide +kernel
theorem dX10_isLetter_8 : decode cX10_isLetter 8 = .ok (.ireturn, 1) := by decide +kernel
theorem dX10_isFigure_0 : decode cX10_isFigure 0 = .ok (.iload_n 0, 1) := by decide +kernel
theorem dX10_isFigure_1 : decode cX10_isFigure 1 = .ok (.bipush 48, 2) := by decide +kernel
theorem dX10_isFigure_3 : decode cX10_isFigure 3 = .ok (.bipush 57, 2) := by decide +kernel
theorem dX10_isFigure_5 : decode cX10_isFigure 5 = .ok (.invokestatic 81, 3) := by decide +kernel
theorem dX10_isFigure_8 : decode cX10_isFigure 8 = .ok (.ireturn, 1) := by decide +kernel
theorem dX10_wordSize_0 : decode cX10_wordSize 0 = .ok (.iconst 0, 1) := by decide +kernel
theorem dX10_wordSize_1 : decode cX10_wordSize 1 = .ok (.istore_n 1, 1) := by decide +kernel
theorem dX10_wordSize_2 : decode cX10_wordSize 2 = .ok (.aload_n 0, 1) := by decide +kernel
theorem dX10_wordSize_3 : decode cX10_wordSize 3 = .ok (.getfield 99, 3) := by decide +kernel
theorem dX10_wordSize_6 : decode cX10_wordSize 6 = .ok (.iload_n 1, 1) := by decide +kernel
theorem dX10_wordSize_7 : decode cX10_wordSize 7 = .ok (.iadd, 1) := by decide +kernel
theorem dX10_wordSize_8 : decode cX10_wordSize 8 = .ok (.aload_n 0, 1) := by decide +kernel
theorem dX10_wordSize_9 : decode cX10_wordSize 9 = .ok (.getfield 96, 3) := by decide +kernel
theorem dX10_wordSize_12 : decode cX10_wordSize 12 = .ok (.if_icmp .ge 26, 3) := by decide +kernel
theorem dX10_wordSize_15 : decode cX10_wordSize 15 = .ok (.aload_n 0, 1) := by decide +kernel
theorem dX10_wordSize_16 : decode cX10_wordSize 16 = .ok (.getfield 37, 3) := by decide +kernel
theorem dX10_wordSize_19 : decode cX10_wordSize 19 = .ok (.aload_n 0, 1) := by decide +kernel
theorem dX10_wordSize_20 : decode cX10_wordSize 20 = .ok (.getfield 99, 3) := by decide +kernel
theorem dX10_wordSize_23 : decode cX10_wordSize 23 = .ok (.iload_n 1, 1) := by decide +kernel
theorem dX10_wordSize_24 : decode cX10_wordSize 24 = .ok (.iadd, 1) := by decide +kernel
theorem dX10_wordSize_25 : decode cX10_wordSize 25 = .ok (.iaload, 1) := by decide +kernel
theorem dX10_wordSize_26 : decode cX10_wordSize 26 = .ok (.invokestatic 105, 3) := by decide +kernel
theorem dX10_wordSize_29 : decode cX10_wordSize 29 = .ok (.ifCond .eq 9, 3) := by decide +kernel
theorem dX10_wordSize_32 : decode cX10_wordSize 32 = .ok (.iinc 1 1, 3) := by decide +kernel
theorem dX10_wordSize_35 : decode cX10_wordSize 35 = .ok (.goto (-33), 3) := by decide +kernel
theorem dX10_wordSize_38 : decode cX10_wordSize 38 = .ok (.iload_n 1, 1) := by decide +kernel
theorem dX10_wordSize_39 : decode cX10_wordSize 39 = .ok (.ireturn, 1) := by decide +kernel
theorem dX10_letter_0 : decode cX10_letter 0 = .ok (.aload_n 0, 1) := by decide +kernel
theorem dX10_letter_1 : decode cX10_letter 1 = .ok (.getfield 37, 3) := by decide +kernel
theorem dX10_letter_4 : decode cX10_letter 4 = .ok (.aload_n 0, 1) := by decide +kernel
theorem dX10_letter_5 : decode cX10_letter 5 = .ok (.getfield 99, 3) := by decide +kernel
theorem dX10_letter_8 : decode cX10_letter 8 = .ok (.iload_n 1, 1) := by decide +kernel
theorem dX10_letter_9 : decode cX10_letter 9 = .ok (.iadd, 1) := by decide +kernel
theorem dX10_letter_10 : decode cX10_letter 10 = .ok (.iaload, 1) := by decide +kernel
theorem dX10_letter_11 : decode cX10_letter 11 = .ok (.ireturn, 1) := by decide +kernel
theorem dX10_wordHere_0 : decode cX10_wordHere 0 = .ok (.aload_n 0, 1) := by decide +kernel
theorem dX10_wordHere_1 : decode cX10_wordHere 1 = .ok (.invokevirtual 109, 3) := by decide +kernel
theorem dX10_wordHere_4 : decode cX10_wordHere 4 = .ok (.istore_n 1, 1) := by decide +kernel
theorem dX10_wordHere_5 : decode cX10_wordHere 5 = .ok (.iload_n 1, 1) := by decide +kernel
theorem dX10_wordHere_6 : decode cX10_wordHere 6 = .ok (.iconst 5, 1) := by decide +kernel
theorem dX10_wordHere_7 : decode cX10_wordHere 7 = .ok (.if_icmp .ne 57, 3) := by decide +kernel
theorem dX10_wordHere_10 : decode cX10_wordHere 10 = .ok (.aload_n 0, 1) := by decide +kernel
theorem dX10_wordHere_11 : decode cX10_wordHere 11 = .ok (.iconst 0, 1) := by decide +kernel
theorem dX10_wordHere_12 : decode cX10_wordHere 12 = .ok (.invokevirtual 112, 3) := by decide +kernel
theorem dX10_wordHere_15 : decode cX10_wordHere 15 = .ok (.bipush 110, 2) := by decide +kernel
theorem dX10_wordHere_17 : decode cX10_wordHere 17 = .ok (.if_icmp .ne 47, 3) := by decide +kernel
theorem dX10_wordHere_20 : decode cX10_wordHere 20 = .ok (.aload_n 0, 1) := by decide +kernel
theorem dX10_wordHere_21 : decode cX10_wordHere 21 = .ok (.iconst 1, 1) := by decide +kernel
theorem dX10_wordHere_22 : decode cX10_wordHere 22 = .ok (.invokevirtual 112, 3) := by decide +kernel
theorem dX10_wordHere_25 : decode cX10_wordHere 25 = .ok (.bipush 105, 2) := by decide +kernel
theorem dX10_wordHere_27 : decode cX10_wordHere 27 = .ok (.if_icmp .ne 37, 3) := by decide +kernel
theorem dX10_wordHere_30 : decode cX10_wordHere 30 = .ok (.aload_n 0, 1) := by decide +kernel
theorem dX10_wordHere_31 : decode cX10_wordHere 31 = .ok (.iconst 2, 1) := by decide +kernel
theorem dX10_wordHere_32 : decode cX10_wordHere 32 = .ok (.invokevirtual 112, 3) := by decide +kernel
theorem dX10_wordHere_35 : decode cX10_wordHere 35 = .ok (.bipush 103, 2) := by decide +kernel
theorem dX10_wordHere_37 : decode cX10_wordHere 37 = .ok (.if_icmp .ne 27, 3) := by decide +kernel
theorem dX10_wordHere_40 : decode cX10_wordHere 40 = .ok (.aload_n 0, 1) := by decide +kernel
theorem dX10_wordHere_41 : decode cX10_wordHere 41 = .ok (.iconst 3, 1) := by decide +kernel
theorem dX10_wordHere_42 : decode cX10_wordHere 42 = .ok (.invokevirtual 112, 3) := by decide +kernel
theorem dX10_wordHere_45 : decode cX10_wordHere 45 = .ok (.bipush 104, 2) := by decide +kernel
theorem dX10_wordHere_47 : decode cX10_wordHere 47 = .ok (.if_icmp .ne 17, 3) := by decide +kernel
theorem dX10_wordHere_50 : decode cX10_wordHere 50 = .ok (.aload_n 0, 1) := by decide +kernel
theorem dX10_wordHere_51 : decode cX10_wordHere 51 = .ok (.iconst 4, 1) := by decide +kernel
theorem dX10_wordHere_52 : decode cX10_wordHere 52 = .ok (.invokevirtual 112, 3) := by decide +kernel
theorem dX10_wordHere_55 : decode cX10_wordHere 55 = .ok (.bipush 116, 2) := by decide +kernel
theorem dX10_wordHere_57 : decode cX10_wordHere 57 = .ok (.if_icmp .ne 7, 3) := by decide +kernel
theorem dX10_wordHere_60 : decode cX10_wordHere 60 = .ok (.iconst 1, 1) := by decide +kernel
theorem dX10_wordHere_61 : decode cX10_wordHere 61 = .ok (.goto 4, 3) := by decide +kernel
theorem dX10_wordHere_64 : decode cX10_wordHere 64 = .ok (.iconst 0, 1) := by decide +kernel
theorem dX10_wordHere_65 : decode cX10_wordHere 65 = .ok (.istore_n 2, 1) := by decide +kernel
theorem dX10_wordHere_66 : decode cX10_wordHere 66 = .ok (.iload_n 1, 1) := by decide +kernel
theorem dX10_wordHere_67 : decode cX10_wordHere 67 = .ok (.iconst 3, 1) := by decide +kernel
theorem dX10_wordHere_68 : decode cX10_wordHere 68 = .ok (.if_icmp .ne 37, 3) := by decide +kernel
theorem dX10_wordHere_71 : decode cX10_wordHere 71 = .ok (.aload_n 0, 1) := by decide +kernel
theorem dX10_wordHere_72 : decode cX10_wordHere 72 = .ok (.iconst 0, 1) := by decide +kernel
theorem dX10_wordHere_73 : decode cX10_wordHere 73 = .ok (.invokevirtual 112, 3) := by decide +kernel
theorem dX10_wordHere_76 : decode cX10_wordHere 76 = .ok (.bipush 98, 2) := by decide +kernel
theorem dX10_wordHere_78 : decode cX10_wordHere 78 = .ok (.if_icmp .ne 27, 3) := by decide +kernel
theorem dX10_wordHere_81 : decode cX10_wordHere 81 = .ok (.aload_n 0, 1) := by decide +kernel
theorem dX10_wordHere_82 : decode cX10_wordHere 82 = .ok (.iconst 1, 1) := by decide +kernel
theorem dX10_wordHere_83 : decode cX10_wordHere 83 = .ok (.invokevirtual 112, 3) := by decide +kernel
theorem dX10_wordHere_86 : decode cX10_wordHere 86 = .ok (.bipush 111, 2) := by decide +kernel
theorem dX10_wordHere_88 : decode cX10_wordHere 88 = .ok (.if_icmp .ne 17, 3) := by decide +kernel
theorem dX10_wordHere_91 : decode cX10_wordHere 91 = .ok (.aload_n 0, 1) := by decide +kernel
theorem dX10_wordHere_92 : decode cX10_wordHere 92 = .ok (.iconst 2, 1) := by decide +kernel
theorem dX10_wordHere_93 : decode cX10_wordHere 93 = .ok (.invokevirtual 112, 3) := by decide +kernel
theorem dX10_wordHere_96 : decode cX10_wordHere 96 = .ok (.bipush 121, 2) := by decide +kernel
theorem dX10_wordHere_98 : decode cX10_wordHere 98 = .ok (.if_icmp .ne 7, 3) := by decide +kernel
theorem dX10_wordHere_101 : decode cX10_wordHere 101 = .ok (.iconst 1, 1) := by decide +kernel
theorem dX10_wordHere_102 : decode cX10_wordHere 102 = .ok (.goto 4, 3) := by decide +kernel
theorem dX10_wordHere_105 : decode cX10_wordHere 105 = .ok (.iconst 0, 1) := by decide +kernel
theorem dX10_wordHere_106 : decode cX10_wordHere 106 = .ok (.istore_n 3, 1) := by decide +kernel
theorem dX10_wordHere_107 : decode cX10_wordHere 107 = .ok (.iload_n 1, 1) := by decide +kernel
theorem dX10_wordHere_108 : decode cX10_wordHere 108 = .ok (.iconst 5, 1) := by decide +kernel
theorem dX10_wordHere_109 : decode cX10_wordHere 109 = .ok (.if_icmp .ne 57, 3) := by decide +kernel
theorem dX10_wordHere_112 : decode cX10_wordHere 112 = .ok (.aload_n 0, 1) := by decide +kernel
theorem dX10_wordHere_113 : decode cX10_wordHere 113 = .ok (.iconst 0, 1) := by decide +kernel
theorem dX10_wordHere_114 : decode cX10_wordHere 114 = .ok (.invokevirtual 112, 3) := by decide +kernel
theorem dX10_wordHere_117 : decode cX10_wordHere 117 = .ok (.bipush 99, 2) := by decide +kernel
theorem dX10_wordHere_119 : decode cX10_wordHere 119 = .ok (.if_icmp .ne 47, 3) := by decide +kernel
theorem dX10_wordHere_122 : decode cX10_wordHere 122 = .ok (.aload_n 0, 1) := by decide +kernel
theorem dX10_wordHere_123 : decode cX10_wordHere 123 = .ok (.iconst 1, 1) := by decide +kernel
theorem dX10_wordHere_124 : decode cX10_wordHere 124 = .ok (.invokevirtual 112, 3) := by decide +kernel
theorem dX10_wordHere_127 : decode cX10_wordHere 127 = .ok (.bipush 101, 2) := by decide +kernel
theorem dX10_wordHere_129 : decode cX10_wordHere 129 = .ok (.if_icmp .ne 37, 3) := by decide +kernel
theorem dX10_wordHere_132 : decode cX10_wordHere 132 = .ok (.aload_n 0, 1) := by decide +kernel
theorem dX10_wordHere_133 : decode cX10_wordHere 133 = .ok (.iconst 2, 1) := by decide +kernel
theorem dX10_wordHere_134 : decode cX10_wordHere 134 = .ok (.invokevirtual 112, 3) := by decide +kernel
theorem dX10_wordHere_137 : decode cX10_wordHere 137 = .ok (.bipush 108, 2) := by decide +kernel
theorem dX10_wordHere_139 : decode cX10_wordHere 139 = .ok (.if_icmp .ne 27, 3) := by decide +kernel
theorem dX10_wordHere_142 : decode cX10_wordHere 142 = .ok (.aload_n 0, 1) := by decide +kernel
theorem dX10_wordHere_143 : decode cX10_wordHere 143 = .ok (.iconst 3, 1) := by decide +kernel
theorem dX10_wordHere_144 : decode cX10_wordHere 144 = .ok (.invokevirtual 112, 3) := by decide +kernel
theorem dX10_wordHere_147 : decode cX10_wordHere 147 = .ok (.bipush 108, 2) := by decide +kernel
theorem dX10_wordHere_149 : decode cX10_wordHere 149 = .ok (.if_icmp .ne 17, 3) := by decide +kernel
theorem dX10_wordHere_152 : decode cX10_wordHere 152 = .ok (.aload_n 0, 1) := by decide +kernel
theorem dX10_wordHere_153 : decode cX10_wordHere 153 = .ok (.iconst 4, 1) := by decide +kernel
theorem dX10_wordHere_154 : decode cX10_wordHere 154 = .ok (.invokevirtual 112, 3) := by decide +kernel
theorem dX10_wordHere_157 : decode cX10_wordHere 157 = .ok (.bipush 115, 2) := by decide +kernel
theorem dX10_wordHere_159 : decode cX10_wordHere 159 = .ok (.if_icmp .ne 7, 3) := by decide +kernel
theorem dX10_wordHere_162 : decode cX10_wordHere 162 = .ok (.iconst 1, 1) := by decide +kernel
theorem dX10_wordHere_163 : decode cX10_wordHere 163 = .ok (.goto 4, 3) := by decide +kernel
theorem dX10_wordHere_166 : decode cX10_wordHere 166 = .ok (.iconst 0, 1) := by decide +kernel
theorem dX10_wordHere_167 : decode cX10_wordHere 167 = .ok (.istore 4, 2) := by decide +kernel
theorem dX10_wordHere_169 : decode cX10_wordHere 169 = .ok (.iload_n 2, 1) := by decide +kernel
theorem dX10_wordHere_170 : decode cX10_wordHere 170 = .ok (.ifCond .eq 7, 3) := by decide +kernel
theorem dX10_wordHere_173 : decode cX10_wordHere 173 = .ok (.iconst 0, 1) := by decide +kernel
theorem dX10_wordHere_174 : decode cX10_wordHere 174 = .ok (.goto 21, 3) := by decide +kernel
theorem dX10_wordHere_177 : decode cX10_wordHere 177 = .ok (.iload_n 3, 1) := by decide +kernel
theorem dX10_wordHere_178 : decode cX10_wordHere 178 = .ok (.ifCond .eq 7, 3) := by decide +kernel
theorem dX10_wordHere_181 : decode cX10_wordHere 181 = .ok (.iconst 1, 1) := by decide +kernel
theorem dX10_wordHere_182 : decode cX10_wordHere 182 = .ok (.goto 13, 3) := by decide +kernel
theorem dX10_wordHere_185 : decode cX10_wordHere 185 = .ok (.iload 4, 2) := by decide +kernel
theorem dX10_wordHere_187 : decode cX10_wordHere 187 = .ok (.ifCond .eq 7, 3) := by decide +kernel
theorem dX10_wordHere_190 : decode cX10_wordHere 190 = .ok (.iconst 2, 1) := by decide +kernel
theorem dX10_wordHere_191 : decode cX10_wordHere 191 = .ok (.goto 4, 3) := by decide +kernel
theorem dX10_wordHere_194 : decode cX10_wordHere 194 = .ok (.iconst (-1), 1) := by decide +kernel
theorem dX10_wordHere_195 : decode cX10_wordHere 195 = .ok (.ireturn, 1) := by decide +kernel
theorem dX10_number_0 : decode cX10_number 0 = .ok (.aload_n 0, 1) := by decide +kernel
theorem dX10_number_1 : decode cX10_number 1 = .ok (.invokevirtual 116, 3) := by decide +kernel
theorem dX10_number_4 : decode cX10_number 4 = .ok (.iconst 0, 1) := by decide +kernel
theorem dX10_number_5 : decode cX10_number 5 = .ok (.istore_n 3, 1) := by decide +kernel
theorem dX10_number_6 : decode cX10_number 6 = .ok (.iconst 0, 1) := by decide +kernel
theorem dX10_number_7 : decode cX10_number 7 = .ok (.istore 4, 2) := by decide +kernel
theorem dX10_number_9 : decode cX10_number 9 = .ok (.aload_n 0, 1) := by decide +kernel
theorem dX10_number_10 : decode cX10_number 10 = .ok (.getfield 99, 3) := by decide +kernel
theorem dX10_number_13 : decode cX10_number 13 = .ok (.iload_n 3, 1) := by decide +kernel
theorem dX10_number_14 : decode cX10_number 14 = .ok (.iadd, 1) := by decide +kernel
theorem dX10_number_15 : decode cX10_number 15 = .ok (.aload_n 0, 1) := by decide +kernel
theorem dX10_number_16 : decode cX10_number 16 = .ok (.getfield 96, 3) := by decide +kernel
theorem dX10_number_19 : decode cX10_number 19 = .ok (.if_icmp .ge 58, 3) := by decide +kernel
theorem dX10_number_22 : decode cX10_number 22 = .ok (.aload_n 0, 1) := by decide +kernel
theorem dX10_number_23 : decode cX10_number 23 = .ok (.getfield 37, 3) := by decide +kernel
theorem dX10_number_26 : decode cX10_number 26 = .ok (.aload_n 0, 1) := by decide +kernel
theorem dX10_number_27 : decode cX10_number 27 = .ok (.getfield 99, 3) := by decide +kernel
theorem dX10_number_30 : decode cX10_number 30 = .ok (.iload_n 3, 1) := by decide +kernel
theorem dX10_number_31 : decode cX10_number 31 = .ok (.iadd, 1) := by decide +kernel
theorem dX10_number_32 : decode cX10_number 32 = .ok (.iaload, 1) := by decide +kernel
theorem dX10_number_33 : decode cX10_number 33 = .ok (.invokestatic 119, 3) := by decide +kernel
theorem dX10_number_36 : decode cX10_number 36 = .ok (.ifCond .eq 41, 3) := by decide +kernel
theorem dX10_number_39 : decode cX10_number 39 = .ok (.iload_n 3, 1) := by decide +kernel
theorem dX10_number_40 : decode cX10_number 40 = .ok (.iconst 2, 1) := by decide +kernel
theorem dX10_number_41 : decode cX10_number 41 = .ok (.if_icmp .ge 26, 3) := by decide +kernel
theorem dX10_number_44 : decode cX10_number 44 = .ok (.bipush 10, 2) := by decide +kernel
theorem dX10_number_46 : decode cX10_number 46 = .ok (.iload 4, 2) := by decide +kernel
theorem dX10_number_48 : decode cX10_number 48 = .ok (.imul, 1) := by decide +kernel
theorem dX10_number_49 : decode cX10_number 49 = .ok (.aload_n 0, 1) := by decide +kernel
theorem dX10_number_50 : decode cX10_number 50 = .ok (.getfield 37, 3) := by decide +kernel
theorem dX10_number_53 : decode cX10_number 53 = .ok (.aload_n 0, 1) := by decide +kernel
theorem dX10_number_54 : decode cX10_number 54 = .ok (.getfield 99, 3) := by decide +kernel
theorem dX10_number_57 : decode cX10_number 57 = .ok (.iload_n 3, 1) := by decide +kernel
theorem dX10_number_58 : decode cX10_number 58 = .ok (.iadd, 1) := by decide +kernel
theorem dX10_number_59 : decode cX10_number 59 = .ok (.iaload, 1) := by decide +kernel
theorem dX10_number_60 : decode cX10_number 60 = .ok (.iadd, 1) := by decide +kernel
theorem dX10_number_61 : decode cX10_number 61 = .ok (.bipush 48, 2) := by decide +kernel
theorem dX10_number_63 : decode cX10_number 63 = .ok (.isub, 1) := by decide +kernel
theorem dX10_number_64 : decode cX10_number 64 = .ok (.goto 5, 3) := by decide +kernel
theorem dX10_number_67 : decode cX10_number 67 = .ok (.iload 4, 2) := by decide +kernel
theorem dX10_number_69 : decode cX10_number 69 = .ok (.istore 4, 2) := by decide +kernel
theorem dX10_number_71 : decode cX10_number 71 = .ok (.iinc 3 1, 3) := by decide +kernel
theorem dX10_number_74 : decode cX10_number 74 = .ok (.goto (-65), 3) := by decide +kernel
theorem dX10_number_77 : decode cX10_number 77 = .ok (.iload_n 3, 1) := by decide +kernel
theorem dX10_number_78 : decode cX10_number 78 = .ok (.iconst 1, 1) := by decide +kernel
theorem dX10_number_79 : decode cX10_number 79 = .ok (.iconst 2, 1) := by decide +kernel
theorem dX10_number_80 : decode cX10_number 80 = .ok (.invokestatic 81, 3) := by decide +kernel
theorem dX10_number_83 : decode cX10_number 83 = .ok (.ifCond .eq 13, 3) := by decide +kernel
theorem dX10_number_86 : decode cX10_number 86 = .ok (.iload 4, 2) := by decide +kernel
theorem dX10_number_88 : decode cX10_number 88 = .ok (.iload_n 1, 1) := by decide +kernel
theorem dX10_number_89 : decode cX10_number 89 = .ok (.iload_n 2, 1) := by decide +kernel
theorem dX10_number_90 : decode cX10_number 90 = .ok (.invokestatic 81, 3) := by decide +kernel
theorem dX10_number_93 : decode cX10_number 93 = .ok (.ifCond .ne 5, 3) := by decide +kernel
theorem dX10_number_96 : decode cX10_number 96 = .ok (.iconst 0, 1) := by decide +kernel
theorem dX10_number_97 : decode cX10_number 97 = .ok (.ireturn, 1) := by decide +kernel
theorem dX10_number_98 : decode cX10_number 98 = .ok (.aload_n 0, 1) := by decide +kernel
theorem dX10_number_99 : decode cX10_number 99 = .ok (.iload 4, 2) := by decide +kernel
theorem dX10_number_101 : decode cX10_number 101 = .ok (.putfield 122, 3) := by decide +kernel
theorem dX10_number_104 : decode cX10_number 104 = .ok (.aload_n 0, 1) := by decide +kernel
theorem dX10_number_105 : decode cX10_number 105 = .ok (.dup, 1) := by decide +kernel
theorem dX10_number_106 : decode cX10_number 106 = .ok (.getfield 99, 3) := by decide +kernel
theorem dX10_number_109 : decode cX10_number 109 = .ok (.iload_n 3, 1) := by decide +kernel
theorem dX10_number_110 : decode cX10_number 110 = .ok (.iadd, 1) := by decide +kernel
theorem dX10_number_111 : decode cX10_number 111 = .ok (.putfield 99, 3) := by decide +kernel
theorem dX10_number_114 : decode cX10_number 114 = .ok (.iconst 1, 1) := by decide +kernel
theorem dX10_number_115 : decode cX10_number 115 = .ok (.ireturn, 1) := by decide +kernel
theorem dX10_ends_0 : decode cX10_ends 0 = .ok (.aload_n 0, 1) := by decide +kernel
theorem dX10_ends_1 : decode cX10_ends 1 = .ok (.invokevirtual 116, 3) := by decide +kernel
theorem dX10_ends_4 : decode cX10_ends 4 = .ok (.aload_n 0, 1) := by decide +kernel
theorem dX10_ends_5 : decode cX10_ends 5 = .ok (.invokevirtual 102, 3) := by decide +kernel
theorem dX10_ends_8 : decode cX10_ends 8 = .ok (.bipush 59, 2) := by decide +kernel
theorem dX10_ends_10 : decode cX10_ends 10 = .ok (.if_icmp .eq 5, 3) := by decide +kernel
theorem dX10_ends_13 : decode cX10_ends 13 = .ok (.iconst 0, 1) := by decide +kernel
theorem dX10_ends_14 : decode cX10_ends 14 = .ok (.ireturn, 1) := by decide +kernel
theorem dX10_ends_15 : decode cX10_ends 15 = .ok (.aload_n 0, 1) := by decide +kernel
theorem dX10_ends_16 : decode cX10_ends 16 = .ok (.dup, 1) := by decide +kernel
theorem dX10_ends_17 : decode cX10_ends 17 = .ok (.getfield 99, 3) := by decide +kernel
theorem dX10_ends_20 : decode cX10_ends 20 = .ok (.iconst 1, 1) := by decide +kernel
theorem dX10_ends_21 : decode cX10_ends 21 = .ok (.iadd, 1) := by decide +kernel
theorem dX10_ends_22 : decode cX10_ends 22 = .ok (.putfield 99, 3) := by decide +kernel
theorem dX10_ends_25 : decode cX10_ends 25 = .ok (.iconst 1, 1) := by decide +kernel
theorem dX10_ends_26 : decode cX10_ends 26 = .ok (.ireturn, 1) := by decide +kernel
theorem dX10_readsBoy_0 : decode cX10_readsBoy 0 = .ok (.iconst 0, 1) := by decide +kernel
theorem dX10_readsBoy_1 : decode cX10_readsBoy 1 = .ok (.istore_n 1, 1) := by decide +kernel
theorem dX10_readsBoy_2 : decode cX10_readsBoy 2 = .ok (.iload_n 1, 1) := by decide +kernel
theorem dX10_readsBoy_3 : decode cX10_readsBoy 3 = .ok (.iconst 3, 1) := by decide +kernel
theorem dX10_readsBoy_4 : decode cX10_readsBoy 4 = .ok (.if_icmp .ge 56, 3) := by decide +kernel
theorem dX10_readsBoy_7 : decode cX10_readsBoy 7 = .ok (.aload_n 0, 1) := by decide +kernel
theorem dX10_readsBoy_8 : decode cX10_readsBoy 8 = .ok (.iconst 0, 1) := by decide +kernel
theorem dX10_readsBoy_9 : decode cX10_readsBoy 9 = .ok (.iload_n 1, 1) := by decide +kernel
theorem dX10_readsBoy_10 : decode cX10_readsBoy 10 = .ok (.ifCond .ne 7, 3) := by decide +kernel
theorem dX10_readsBoy_13 : decode cX10_readsBoy 13 = .ok (.iconst 5, 1) := by decide +kernel
theorem dX10_readsBoy_14 : decode cX10_readsBoy 14 = .ok (.goto 15, 3) := by decide +kernel
theorem dX10_readsBoy_17 : decode cX10_readsBoy 17 = .ok (.iload_n 1, 1) := by decide +kernel
theorem dX10_readsBoy_18 : decode cX10_readsBoy 18 = .ok (.iconst 1, 1) := by decide +kernel
theorem dX10_readsBoy_19 : decode cX10_readsBoy 19 = .ok (.if_icmp .ne 8, 3) := by decide +kernel
theorem dX10_readsBoy_22 : decode cX10_readsBoy 22 = .ok (.bipush 12, 2) := by decide +kernel
theorem dX10_readsBoy_24 : decode cX10_readsBoy 24 = .ok (.goto 5, 3) := by decide +kernel
theorem dX10_readsBoy_27 : decode cX10_readsBoy 27 = .ok (.bipush 40, 2) := by decide +kernel
theorem dX10_readsBoy_29 : decode cX10_readsBoy 29 = .ok (.invokevirtual 125, 3) := by decide +kernel
theorem dX10_readsBoy_32 : decode cX10_readsBoy 32 = .ok (.ifCond .ne 5, 3) := by decide +kernel
theorem dX10_readsBoy_35 : decode cX10_readsBoy 35 = .ok (.iconst 0, 1) := by decide +kernel
theorem dX10_readsBoy_36 : decode cX10_readsBoy 36 = .ok (.ireturn, 1) := by decide +kernel
theorem dX10_readsBoy_37 : decode cX10_readsBoy 37 = .ok (.aload_n 0, 1) := by decide +kernel
theorem dX10_readsBoy_38 : decode cX10_readsBoy 38 = .ok (.getfield 40, 3) := by decide +kernel
theorem dX10_readsBoy_41 : decode cX10_readsBoy 41 = .ok (.iconst 3, 1) := by decide +kernel
theorem dX10_readsBoy_42 : decode cX10_readsBoy 42 = .ok (.aload_n 0, 1) := by decide +kernel
theorem dX10_readsBoy_43 : decode cX10_readsBoy 43 = .ok (.getfield 129, 3) := by decide +kernel
theorem dX10_readsBoy_46 : decode cX10_readsBoy 46 = .ok (.imul, 1) := by decide +kernel
theorem dX10_readsBoy_47 : decode cX10_readsBoy 47 = .ok (.iload_n 1, 1) := by decide +kernel
theorem dX10_readsBoy_48 : decode cX10_readsBoy 48 = .ok (.iadd, 1) := by decide +kernel
theorem dX10_readsBoy_49 : decode cX10_readsBoy 49 = .ok (.aload_n 0, 1) := by decide +kernel
theorem dX10_readsBoy_50 : decode cX10_readsBoy 50 = .ok (.getfield 122, 3) := by decide +kernel
theorem dX10_readsBoy_53 : decode cX10_readsBoy 53 = .ok (.iastore, 1) := by decide +kernel
theorem dX10_readsBoy_54 : decode cX10_readsBoy 54 = .ok (.iinc 1 1, 3) := by decide +kernel
theorem dX10_readsBoy_57 : decode cX10_readsBoy 57 = .ok (.goto (-55), 3) := by decide +kernel
theorem dX10_readsBoy_60 : decode cX10_readsBoy 60 = .ok (.aload_n 0, 1) := by decide +kernel
theorem dX10_readsBoy_61 : decode cX10_readsBoy 61 = .ok (.dup, 1) := by decide +kernel
theorem dX10_readsBoy_62 : decode cX10_readsBoy 62 = .ok (.getfield 129, 3) := by decide +kernel
theorem dX10_readsBoy_65 : decode cX10_readsBoy 65 = .ok (.iconst 1, 1) := by decide +kernel
theorem dX10_readsBoy_66 : decode cX10_readsBoy 66 = .ok (.iadd, 1) := by decide +kernel
theorem dX10_readsBoy_67 : decode cX10_readsBoy 67 = .ok (.putfield 129, 3) := by decide +kernel
theorem dX10_readsBoy_70 : decode cX10_readsBoy 70 = .ok (.aload_n 0, 1) := by decide +kernel
theorem dX10_readsBoy_71 : decode cX10_readsBoy 71 = .ok (.invokevirtual 132, 3) := by decide +kernel
theorem dX10_readsBoy_74 : decode cX10_readsBoy 74 = .ok (.ireturn, 1) := by decide +kernel
theorem dX10_readsCells_0 : decode cX10_readsCells 0 = .ok (.aload_n 0, 1) := by decide +kernel
theorem dX10_readsCells_1 : decode cX10_readsCells 1 = .ok (.iconst 0, 1) := by decide +kernel
theorem dX10_readsCells_2 : decode cX10_readsCells 2 = .ok (.aload_n 0, 1) := by decide +kernel
theorem dX10_readsCells_3 : decode cX10_readsCells 3 = .ok (.getfield 129, 3) := by decide +kernel
theorem dX10_readsCells_6 : decode cX10_readsCells 6 = .ok (.iconst 1, 1) := by decide +kernel
theorem dX10_readsCells_7 : decode cX10_readsCells 7 = .ok (.isub, 1) := by decide +kernel
theorem dX10_readsCells_8 : decode cX10_readsCells 8 = .ok (.invokevirtual 125, 3) := by decide +kernel
theorem dX10_readsCells_11 : decode cX10_readsCells 11 = .ok (.ifCond .ne 5, 3) := by decide +kernel
theorem dX10_readsCells_14 : decode cX10_readsCells 14 = .ok (.iconst 0, 1) := by decide +kernel
theorem dX10_readsCells_15 : decode cX10_readsCells 15 = .ok (.ireturn, 1) := by decide +kernel
theorem dX10_readsCells_16 : decode cX10_readsCells 16 = .ok (.aload_n 0, 1) := by decide +kernel
theorem dX10_readsCells_17 : decode cX10_readsCells 17 = .ok (.getfield 122, 3) := by decide +kernel
theorem dX10_readsCells_20 : decode cX10_readsCells 20 = .ok (.istore_n 1, 1) := by decide +kernel
theorem dX10_readsCells_21 : decode cX10_readsCells 21 = .ok (.aload_n 0, 1) := by decide +kernel
theorem dX10_readsCells_22 : decode cX10_readsCells 22 = .ok (.invokevirtual 116, 3) := by decide +kernel
theorem dX10_readsCells_25 : decode cX10_readsCells 25 = .ok (.aload_n 0, 1) := by decide +kernel
theorem dX10_readsCells_26 : decode cX10_readsCells 26 = .ok (.invokevirtual 102, 3) := by decide +kernel
theorem dX10_readsCells_29 : decode cX10_readsCells 29 = .ok (.invokestatic 119, 3) := by decide +kernel
theorem dX10_readsCells_32 : decode cX10_readsCells 32 = .ok (.ifCond .eq 32, 3) := by decide +kernel
theorem dX10_readsCells_35 : decode cX10_readsCells 35 = .ok (.aload_n 0, 1) := by decide +kernel
theorem dX10_readsCells_36 : decode cX10_readsCells 36 = .ok (.iconst 0, 1) := by decide +kernel
theorem dX10_readsCells_37 : decode cX10_readsCells 37 = .ok (.bipush 11, 2) := by decide +kernel
theorem dX10_readsCells_39 : decode cX10_readsCells 39 = .ok (.invokevirtual 125, 3) := by decide +kernel
theorem dX10_readsCells_42 : decode cX10_readsCells 42 = .ok (.ifCond .ne 5, 3) := by decide +kernel
theorem dX10_readsCells_45 : decode cX10_readsCells 45 = .ok (.iconst 0, 1) := by decide +kernel
theorem dX10_readsCells_46 : decode cX10_readsCells 46 = .ok (.ireturn, 1) := by decide +kernel
theorem dX10_readsCells_47 : decode cX10_readsCells 47 = .ok (.aload_n 0, 1) := by decide +kernel
theorem dX10_readsCells_48 : decode cX10_readsCells 48 = .ok (.getfield 43, 3) := by decide +kernel
theorem dX10_readsCells_51 : decode cX10_readsCells 51 = .ok (.aload_n 0, 1) := by decide +kernel
theorem dX10_readsCells_52 : decode cX10_readsCells 52 = .ok (.getfield 122, 3) := by decide +kernel
theorem dX10_readsCells_55 : decode cX10_readsCells 55 = .ok (.iload_n 1, 1) := by decide +kernel
theorem dX10_readsCells_56 : decode cX10_readsCells 56 = .ok (.iastore, 1) := by decide +kernel
theorem dX10_readsCells_57 : decode cX10_readsCells 57 = .ok (.aload_n 0, 1) := by decide +kernel
theorem dX10_readsCells_58 : decode cX10_readsCells 58 = .ok (.invokevirtual 116, 3) := by decide +kernel
theorem dX10_readsCells_61 : decode cX10_readsCells 61 = .ok (.goto (-36), 3) := by decide +kernel
theorem dX10_readsCells_64 : decode cX10_readsCells 64 = .ok (.aload_n 0, 1) := by decide +kernel
theorem dX10_readsCells_65 : decode cX10_readsCells 65 = .ok (.invokevirtual 132, 3) := by decide +kernel
theorem dX10_readsCells_68 : decode cX10_readsCells 68 = .ok (.ireturn, 1) := by decide +kernel
theorem dX10_readsItem_0 : decode cX10_readsItem 0 = .ok (.aload_n 0, 1) := by decide +kernel
theorem dX10_readsItem_1 : decode cX10_readsItem 1 = .ok (.invokevirtual 136, 3) := by decide +kernel
theorem dX10_readsItem_4 : decode cX10_readsItem 4 = .ok (.istore_n 1, 1) := by decide +kernel
theorem dX10_readsItem_5 : decode cX10_readsItem 5 = .ok (.iload_n 1, 1) := by decide +kernel
theorem dX10_readsItem_6 : decode cX10_readsItem 6 = .ok (.iconst 1, 1) := by decide +kernel
theorem dX10_readsItem_7 : decode cX10_readsItem 7 = .ok (.if_icmp .lt 16, 3) := by decide +kernel
theorem dX10_readsItem_10 : decode cX10_readsItem 10 = .ok (.iload_n 1, 1) := by decide +kernel
theorem dX10_readsItem_11 : decode cX10_readsItem 11 = .ok (.iconst 1, 1) := by decide +kernel
theorem dX10_readsItem_12 : decode cX10_readsItem 12 = .ok (.if_icmp .ne 13, 3) := by decide +kernel
theorem dX10_readsItem_15 : decode cX10_readsItem 15 = .ok (.aload_n 0, 1) := by decide +kernel
theorem dX10_readsItem_16 : decode cX10_readsItem 16 = .ok (.getfield 129, 3) := by decide +kernel
theorem dX10_readsItem_19 : decode cX10_readsItem 19 = .ok (.iconst 5, 1) := by decide +kernel
theorem dX10_readsItem_20 : decode cX10_readsItem 20 = .ok (.if_icmp .ne 5, 3) := by decide +kernel
theorem dX10_readsItem_23 : decode cX10_readsItem 23 = .ok (.iconst 0, 1) := by decide +kernel
theorem dX10_readsItem_24 : decode cX10_readsItem 24 = .ok (.ireturn, 1) := by decide +kernel
theorem dX10_readsItem_25 : decode cX10_readsItem 25 = .ok (.aload_n 0, 1) := by decide +kernel
theorem dX10_readsItem_26 : decode cX10_readsItem 26 = .ok (.dup, 1) := by decide +kernel
theorem dX10_readsItem_27 : decode cX10_readsItem 27 = .ok (.getfield 99, 3) := by decide +kernel
theorem dX10_readsItem_30 : decode cX10_readsItem 30 = .ok (.iload_n 1, 1) := by decide +kernel
theorem dX10_readsItem_31 : decode cX10_readsItem 31 = .ok (.iconst 1, 1) := by decide +kernel
theorem dX10_readsItem_32 : decode cX10_readsItem 32 = .ok (.if_icmp .ne 7, 3) := by decide +kernel
theorem dX10_readsItem_35 : decode cX10_readsItem 35 = .ok (.iconst 3, 1) := by decide +kernel
theorem dX10_readsItem_36 : decode cX10_readsItem 36 = .ok (.goto 4, 3) := by decide +kernel
theorem dX10_readsItem_39 : decode cX10_readsItem 39 = .ok (.iconst 5, 1) := by decide +kernel
theorem dX10_readsItem_40 : decode cX10_readsItem 40 = .ok (.iadd, 1) := by decide +kernel
theorem dX10_readsItem_41 : decode cX10_readsItem 41 = .ok (.putfield 99, 3) := by decide +kernel
theorem dX10_readsItem_44 : decode cX10_readsItem 44 = .ok (.iload_n 1, 1) := by decide +kernel
theorem dX10_readsItem_45 : decode cX10_readsItem 45 = .ok (.iconst 1, 1) := by decide +kernel
theorem dX10_readsItem_46 : decode cX10_readsItem 46 = .ok (.if_icmp .ne 10, 3) := by decide +kernel
theorem dX10_readsItem_49 : decode cX10_readsItem 49 = .ok (.aload_n 0, 1) := by decide +kernel
theorem dX10_readsItem_50 : decode cX10_readsItem 50 = .ok (.invokevirtual 139, 3) := by decide +kernel
theorem dX10_readsItem_53 : decode cX10_readsItem 53 = .ok (.goto 7, 3) := by decide +kernel
theorem dX10_readsItem_56 : decode cX10_readsItem 56 = .ok (.aload_n 0, 1) := by decide +kernel
theorem dX10_readsItem_57 : decode cX10_readsItem 57 = .ok (.invokevirtual 142, 3) := by decide +kernel
theorem dX10_readsItem_60 : decode cX10_readsItem 60 = .ok (.ireturn, 1) := by decide +kernel
theorem dX10_readsNight_0 : decode cX10_readsNight 0 = .ok (.aload_n 0, 1) := by decide +kernel
theorem dX10_readsNight_1 : decode cX10_readsNight 1 = .ok (.iconst 0, 1) := by decide +kernel
theorem dX10_readsNight_2 : decode cX10_readsNight 2 = .ok (.putfield 99, 3) := by decide +kernel
theorem dX10_readsNight_5 : decode cX10_readsNight 5 = .ok (.aload_n 0, 1) := by decide +kernel
theorem dX10_readsNight_6 : decode cX10_readsNight 6 = .ok (.iconst 0, 1) := by decide +kernel
theorem dX10_readsNight_7 : decode cX10_readsNight 7 = .ok (.putfield 129, 3) := by decide +kernel
theorem dX10_readsNight_10 : decode cX10_readsNight 10 = .ok (.iconst 0, 1) := by decide +kernel
theorem dX10_readsNight_11 : decode cX10_readsNight 11 = .ok (.istore_n 1, 1) := by decide +kernel
theorem dX10_readsNight_12 : decode cX10_readsNight 12 = .ok (.iload_n 1, 1) := by decide +kernel
theorem dX10_readsNight_13 : decode cX10_readsNight 13 = .ok (.bipush 12, 2) := by decide +kernel
theorem dX10_readsNight_15 : decode cX10_readsNight 15 = .ok (.if_icmp .ge 16, 3) := by decide +kernel
theorem dX10_readsNight_18 : decode cX10_readsNight 18 = .ok (.aload_n 0, 1) := by decide +kernel
theorem dX10_readsNight_19 : decode cX10_readsNight 19 = .ok (.getfield 43, 3) := by decide +kernel
theorem dX10_readsNight_22 : decode cX10_readsNight 22 = .ok (.iload_n 1, 1) := by decide +kernel
theorem dX10_readsNight_23 : decode cX10_readsNight 23 = .ok (.iconst (-1), 1) := by decide +kernel
theorem dX10_readsNight_24 : decode cX10_readsNight 24 = .ok (.iastore, 1) := by decide +kernel
theorem dX10_readsNight_25 : decode cX10_readsNight 25 = .ok (.iinc 1 1, 3) := by decide +kernel
theorem dX10_readsNight_28 : decode cX10_readsNight 28 = .ok (.goto (-16), 3) := by decide +kernel
theorem dX10_readsNight_31 : decode cX10_readsNight 31 = .ok (.aload_n 0, 1) := by decide +kernel
theorem dX10_readsNight_32 : decode cX10_readsNight 32 = .ok (.invokevirtual 116, 3) := by decide +kernel
theorem dX10_readsNight_35 : decode cX10_readsNight 35 = .ok (.aload_n 0, 1) := by decide +kernel
theorem dX10_readsNight_36 : decode cX10_readsNight 36 = .ok (.invokevirtual 136, 3) := by decide +kernel
theorem dX10_readsNight_39 : decode cX10_readsNight 39 = .ok (.ifCond .eq 5, 3) := by decide +kernel
theorem dX10_readsNight_42 : decode cX10_readsNight 42 = .ok (.iconst (-1), 1) := by decide +kernel
theorem dX10_readsNight_43 : decode cX10_readsNight 43 = .ok (.ireturn, 1) := by decide +kernel
theorem dX10_readsNight_44 : decode cX10_readsNight 44 = .ok (.aload_n 0, 1) := by decide +kernel
theorem dX10_readsNight_45 : decode cX10_readsNight 45 = .ok (.dup, 1) := by decide +kernel
theorem dX10_readsNight_46 : decode cX10_readsNight 46 = .ok (.getfield 99, 3) := by decide +kernel
theorem dX10_readsNight_49 : decode cX10_readsNight 49 = .ok (.iconst 5, 1) := by decide +kernel
theorem dX10_readsNight_50 : decode cX10_readsNight 50 = .ok (.iadd, 1) := by decide +kernel
theorem dX10_readsNight_51 : decode cX10_readsNight 51 = .ok (.putfield 99, 3) := by decide +kernel
theorem dX10_readsNight_54 : decode cX10_readsNight 54 = .ok (.aload_n 0, 1) := by decide +kernel
theorem dX10_readsNight_55 : decode cX10_readsNight 55 = .ok (.invokevirtual 132, 3) := by decide +kernel
theorem dX10_readsNight_58 : decode cX10_readsNight 58 = .ok (.ifCond .ne 5, 3) := by decide +kernel
theorem dX10_readsNight_61 : decode cX10_readsNight 61 = .ok (.iconst (-1), 1) := by decide +kernel
theorem dX10_readsNight_62 : decode cX10_readsNight 62 = .ok (.ireturn, 1) := by decide +kernel
theorem dX10_readsNight_63 : decode cX10_readsNight 63 = .ok (.iconst 1, 1) := by decide +kernel
theorem dX10_readsNight_64 : decode cX10_readsNight 64 = .ok (.istore_n 1, 1) := by decide +kernel
theorem dX10_readsNight_65 : decode cX10_readsNight 65 = .ok (.aload_n 0, 1) := by decide +kernel
theorem dX10_readsNight_66 : decode cX10_readsNight 66 = .ok (.invokevirtual 116, 3) := by decide +kernel
theorem dX10_readsNight_69 : decode cX10_readsNight 69 = .ok (.aload_n 0, 1) := by decide +kernel
theorem dX10_readsNight_70 : decode cX10_readsNight 70 = .ok (.getfield 99, 3) := by decide +kernel
theorem dX10_readsNight_73 : decode cX10_readsNight 73 = .ok (.aload_n 0, 1) := by decide +kernel
theorem dX10_readsNight_74 : decode cX10_readsNight 74 = .ok (.getfield 96, 3) := by decide +kernel
theorem dX10_readsNight_77 : decode cX10_readsNight 77 = .ok (.if_icmp .ge 22, 3) := by decide +kernel
theorem dX10_readsNight_80 : decode cX10_readsNight 80 = .ok (.aload_n 0, 1) := by decide +kernel
theorem dX10_readsNight_81 : decode cX10_readsNight 81 = .ok (.invokevirtual 145, 3) := by decide +kernel
theorem dX10_readsNight_84 : decode cX10_readsNight 84 = .ok (.ifCond .ne 5, 3) := by decide +kernel
theorem dX10_readsNight_87 : decode cX10_readsNight 87 = .ok (.iconst (-1), 1) := by decide +kernel
theorem dX10_readsNight_88 : decode cX10_readsNight 88 = .ok (.ireturn, 1) := by decide +kernel
theorem dX10_readsNight_89 : decode cX10_readsNight 89 = .ok (.iinc 1 1, 3) := by decide +kernel
theorem dX10_readsNight_92 : decode cX10_readsNight 92 = .ok (.aload_n 0, 1) := by decide +kernel
theorem dX10_readsNight_93 : decode cX10_readsNight 93 = .ok (.invokevirtual 116, 3) := by decide +kernel
theorem dX10_readsNight_96 : decode cX10_readsNight 96 = .ok (.goto (-27), 3) := by decide +kernel
theorem dX10_readsNight_99 : decode cX10_readsNight 99 = .ok (.iload_n 1, 1) := by decide +kernel
theorem dX10_readsNight_100 : decode cX10_readsNight 100 = .ok (.ireturn, 1) := by decide +kernel
theorem dX10_read_0 : decode cX10_read 0 = .ok (.aload_n 0, 1) := by decide +kernel
theorem dX10_read_1 : decode cX10_read 1 = .ok (.invokevirtual 148, 3) := by decide +kernel
theorem dX10_read_4 : decode cX10_read 4 = .ok (.istore_n 1, 1) := by decide +kernel
theorem dX10_read_5 : decode cX10_read 5 = .ok (.iload_n 1, 1) := by decide +kernel
theorem dX10_read_6 : decode cX10_read 6 = .ok (.ifCond .ge 11, 3) := by decide +kernel
theorem dX10_read_9 : decode cX10_read 9 = .ok (.bipush (-10), 2) := by decide +kernel
theorem dX10_read_11 : decode cX10_read 11 = .ok (.aload_n 0, 1) := by decide +kernel
theorem dX10_read_12 : decode cX10_read 12 = .ok (.getfield 99, 3) := by decide +kernel
theorem dX10_read_15 : decode cX10_read 15 = .ok (.isub, 1) := by decide +kernel
theorem dX10_read_16 : decode cX10_read 16 = .ok (.ireturn, 1) := by decide +kernel
theorem dX10_read_17 : decode cX10_read 17 = .ok (.aload_n 0, 1) := by decide +kernel
theorem dX10_read_18 : decode cX10_read 18 = .ok (.invokevirtual 68, 3) := by decide +kernel
theorem dX10_read_21 : decode cX10_read 21 = .ok (.iconst 0, 1) := by decide +kernel
theorem dX10_read_22 : decode cX10_read 22 = .ok (.istore_n 2, 1) := by decide +kernel
theorem dX10_read_23 : decode cX10_read 23 = .ok (.iload_n 2, 1) := by decide +kernel
theorem dX10_read_24 : decode cX10_read 24 = .ok (.aload_n 0, 1) := by decide +kernel
theorem dX10_read_25 : decode cX10_read 25 = .ok (.getfield 129, 3) := by decide +kernel
theorem dX10_read_28 : decode cX10_read 28 = .ok (.if_icmp .ge 42, 3) := by decide +kernel
theorem dX10_read_31 : decode cX10_read 31 = .ok (.aload_n 0, 1) := by decide +kernel
theorem dX10_read_32 : decode cX10_read 32 = .ok (.aload_n 0, 1) := by decide +kernel
theorem dX10_read_33 : decode cX10_read 33 = .ok (.getfield 40, 3) := by decide +kernel
theorem dX10_read_36 : decode cX10_read 36 = .ok (.iconst 3, 1) := by decide +kernel
theorem dX10_read_37 : decode cX10_read 37 = .ok (.iload_n 2, 1) := by decide +kernel
theorem dX10_read_38 : decode cX10_read 38 = .ok (.imul, 1) := by decide +kernel
theorem dX10_read_39 : decode cX10_read 39 = .ok (.iaload, 1) := by decide +kernel
theorem dX10_read_40 : decode cX10_read 40 = .ok (.aload_n 0, 1) := by decide +kernel
theorem dX10_read_41 : decode cX10_read 41 = .ok (.getfield 40, 3) := by decide +kernel
theorem dX10_read_44 : decode cX10_read 44 = .ok (.iconst 3, 1) := by decide +kernel
theorem dX10_read_45 : decode cX10_read 45 = .ok (.iload_n 2, 1) := by decide +kernel
theorem dX10_read_46 : decode cX10_read 46 = .ok (.imul, 1) := by decide +kernel
theorem dX10_read_47 : decode cX10_read 47 = .ok (.iconst 1, 1) := by decide +kernel
theorem dX10_read_48 : decode cX10_read 48 = .ok (.iadd, 1) := by decide +kernel
theorem dX10_read_49 : decode cX10_read 49 = .ok (.iaload, 1) := by decide +kernel
theorem dX10_read_50 : decode cX10_read 50 = .ok (.aload_n 0, 1) := by decide +kernel
theorem dX10_read_51 : decode cX10_read 51 = .ok (.getfield 40, 3) := by decide +kernel
theorem dX10_read_54 : decode cX10_read 54 = .ok (.iconst 3, 1) := by decide +kernel
theorem dX10_read_55 : decode cX10_read 55 = .ok (.iload_n 2, 1) := by decide +kernel
theorem dX10_read_56 : decode cX10_read 56 = .ok (.imul, 1) := by decide +kernel
theorem dX10_read_57 : decode cX10_read 57 = .ok (.iconst 2, 1) := by decide +kernel
theorem dX10_read_58 : decode cX10_read 58 = .ok (.iadd, 1) := by decide +kernel
theorem dX10_read_59 : decode cX10_read 59 = .ok (.iaload, 1) := by decide +kernel
theorem dX10_read_60 : decode cX10_read 60 = .ok (.invokevirtual 92, 3) := by decide +kernel
theorem dX10_read_63 : decode cX10_read 63 = .ok (.pop, 1) := by decide +kernel
theorem dX10_read_64 : decode cX10_read 64 = .ok (.iinc 2 1, 3) := by decide +kernel
theorem dX10_read_67 : decode cX10_read 67 = .ok (.goto (-44), 3) := by decide +kernel
theorem dX10_read_70 : decode cX10_read 70 = .ok (.iconst 0, 1) := by decide +kernel
theorem dX10_read_71 : decode cX10_read 71 = .ok (.istore_n 2, 1) := by decide +kernel
theorem dX10_read_72 : decode cX10_read 72 = .ok (.iload_n 2, 1) := by decide +kernel
theorem dX10_read_73 : decode cX10_read 73 = .ok (.bipush 12, 2) := by decide +kernel
theorem dX10_read_75 : decode cX10_read 75 = .ok (.if_icmp .ge 21, 3) := by decide +kernel
theorem dX10_read_78 : decode cX10_read 78 = .ok (.aload_n 0, 1) := by decide +kernel
theorem dX10_read_79 : decode cX10_read 79 = .ok (.getfield 22, 3) := by decide +kernel
theorem dX10_read_82 : decode cX10_read 82 = .ok (.iload_n 2, 1) := by decide +kernel
theorem dX10_read_83 : decode cX10_read 83 = .ok (.aload_n 0, 1) := by decide +kernel
theorem dX10_read_84 : decode cX10_read 84 = .ok (.getfield 43, 3) := by decide +kernel
theorem dX10_read_87 : decode cX10_read 87 = .ok (.iload_n 2, 1) := by decide +kernel
theorem dX10_read_88 : decode cX10_read 88 = .ok (.iaload, 1) := by decide +kernel
theorem dX10_read_89 : decode cX10_read 89 = .ok (.iastore, 1) := by decide +kernel
theorem dX10_read_90 : decode cX10_read 90 = .ok (.iinc 2 1, 3) := by decide +kernel
theorem dX10_read_93 : decode cX10_read 93 = .ok (.goto (-21), 3) := by decide +kernel
theorem dX10_read_96 : decode cX10_read 96 = .ok (.iload_n 1, 1) := by decide +kernel
theorem dX10_read_97 : decode cX10_read 97 = .ok (.ireturn, 1) := by decide +kernel
theorem dX10_valueBy_0 : decode cX10_valueBy 0 = .ok (.iload_n 1, 1) := by decide +kernel
theorem dX10_valueBy_1 : decode cX10_valueBy 1 = .ok (.iconst 3, 1) := by decide +kernel
theorem dX10_valueBy_2 : decode cX10_valueBy 2 = .ok (.if_icmp .ge 7, 3) := by decide +kernel
theorem dX10_valueBy_5 : decode cX10_valueBy 5 = .ok (.iconst 5, 1) := by decide +kernel
theorem dX10_valueBy_6 : decode cX10_valueBy 6 = .ok (.goto 4, 3) := by decide +kernel
theorem dX10_valueBy_9 : decode cX10_valueBy 9 = .ok (.iconst 3, 1) := by decide +kernel
theorem dX10_valueBy_10 : decode cX10_valueBy 10 = .ok (.istore_n 3, 1) := by decide +kernel
theorem dX10_valueBy_11 : decode cX10_valueBy 11 = .ok (.iload_n 2, 1) := by decide +kernel
theorem dX10_valueBy_12 : decode cX10_valueBy 12 = .ok (.ifCond .eq 7, 3) := by decide +kernel
theorem dX10_valueBy_15 : decode cX10_valueBy 15 = .ok (.iconst 5, 1) := by decide +kernel
theorem dX10_valueBy_16 : decode cX10_valueBy 16 = .ok (.goto 4, 3) := by decide +kernel
theorem dX10_valueBy_19 : decode cX10_valueBy 19 = .ok (.iconst 3, 1) := by decide +kernel
theorem dX10_valueBy_20 : decode cX10_valueBy 20 = .ok (.istore 4, 2) := by decide +kernel
theorem dX10_valueBy_22 : decode cX10_valueBy 22 = .ok (.iload_n 1, 1) := by decide +kernel
theorem dX10_valueBy_23 : decode cX10_valueBy 23 = .ok (.iconst 4, 1) := by decide +kernel
theorem dX10_valueBy_24 : decode cX10_valueBy 24 = .ok (.bipush 7, 2) := by decide +kernel
theorem dX10_valueBy_26 : decode cX10_valueBy 26 = .ok (.invokestatic 81, 3) := by decide +kernel
theorem dX10_valueBy_29 : decode cX10_valueBy 29 = .ok (.istore 5, 2) := by decide +kernel
theorem dX10_valueBy_31 : decode cX10_valueBy 31 = .ok (.iload_n 0, 1) := by decide +kernel
theorem dX10_valueBy_32 : decode cX10_valueBy 32 = .ok (.tableswitch 81 1 5 #[36, 38, 50, 53, 64], 36) := by decide +kernel
theorem dX10_valueBy_68 : decode cX10_valueBy 68 = .ok (.iload_n 3, 1) := by decide +kernel
theorem dX10_valueBy_69 : decode cX10_valueBy 69 = .ok (.ireturn, 1) := by decide +kernel
theorem dX10_valueBy_70 : decode cX10_valueBy 70 = .ok (.iload 5, 2) := by decide +kernel
theorem dX10_valueBy_72 : decode cX10_valueBy 72 = .ok (.ifCond .eq 8, 3) := by decide +kernel
theorem dX10_valueBy_75 : decode cX10_valueBy 75 = .ok (.bipush 6, 2) := by decide +kernel
theorem dX10_valueBy_77 : decode cX10_valueBy 77 = .ok (.goto 4, 3) := by decide +kernel
theorem dX10_valueBy_80 : decode cX10_valueBy 80 = .ok (.iconst 3, 1) := by decide +kernel
theorem dX10_valueBy_81 : decode cX10_valueBy 81 = .ok (.ireturn, 1) := by decide +kernel
theorem dX10_valueBy_82 : decode cX10_valueBy 82 = .ok (.iload 4, 2) := by decide +kernel
theorem dX10_valueBy_84 : decode cX10_valueBy 84 = .ok (.ireturn, 1) := by decide +kernel
theorem dX10_valueBy_85 : decode cX10_valueBy 85 = .ok (.iload 5, 2) := by decide +kernel
theorem dX10_valueBy_87 : decode cX10_valueBy 87 = .ok (.ifCond .eq 7, 3) := by decide +kernel
theorem dX10_valueBy_90 : decode cX10_valueBy 90 = .ok (.iconst 0, 1) := by decide +kernel
theorem dX10_valueBy_91 : decode cX10_valueBy 91 = .ok (.goto 4, 3) := by decide +kernel
theorem dX10_valueBy_94 : decode cX10_valueBy 94 = .ok (.iload_n 3, 1) := by decide +kernel
theorem dX10_valueBy_95 : decode cX10_valueBy 95 = .ok (.ireturn, 1) := by decide +kernel
theorem dX10_valueBy_96 : decode cX10_valueBy 96 = .ok (.iload 4, 2) := by decide +kernel
theorem dX10_valueBy_98 : decode cX10_valueBy 98 = .ok (.iconst 1, 1) := by decide +kernel
theorem dX10_valueBy_99 : decode cX10_valueBy 99 = .ok (.isub, 1) := by decide +kernel
theorem dX10_valueBy_100 : decode cX10_valueBy 100 = .ok (.iload_n 1, 1) := by decide +kernel
theorem dX10_valueBy_101 : decode cX10_valueBy 101 = .ok (.bipush 11, 2) := by decide +kernel
theorem dX10_valueBy_103 : decode cX10_valueBy 103 = .ok (.if_icmp .ne 7, 3) := by decide +kernel
theorem dX10_valueBy_106 : decode cX10_valueBy 106 = .ok (.iconst 3, 1) := by decide +kernel
theorem dX10_valueBy_107 : decode cX10_valueBy 107 = .ok (.goto 4, 3) := by decide +kernel
theorem dX10_valueBy_110 : decode cX10_valueBy 110 = .ok (.iconst 0, 1) := by decide +kernel
theorem dX10_valueBy_111 : decode cX10_valueBy 111 = .ok (.iadd, 1) := by decide +kernel
theorem dX10_valueBy_112 : decode cX10_valueBy 112 = .ok (.ireturn, 1) := by decide +kernel
theorem dX10_valueBy_113 : decode cX10_valueBy 113 = .ok (.iconst 3, 1) := by decide +kernel
theorem dX10_valueBy_114 : decode cX10_valueBy 114 = .ok (.ireturn, 1) := by decide +kernel
theorem dX10_valueIn_0 : decode cX10_valueIn 0 = .ok (.aload_n 0, 1) := by decide +kernel
theorem dX10_valueIn_1 : decode cX10_valueIn 1 = .ok (.getfield 13, 3) := by decide +kernel
theorem dX10_valueIn_4 : decode cX10_valueIn 4 = .ok (.iload_n 1, 1) := by decide +kernel
theorem dX10_valueIn_5 : decode cX10_valueIn 5 = .ok (.iaload, 1) := by decide +kernel
theorem dX10_valueIn_6 : decode cX10_valueIn 6 = .ok (.iload_n 2, 1) := by decide +kernel
theorem dX10_valueIn_7 : decode cX10_valueIn 7 = .ok (.iload_n 2, 1) := by decide +kernel
theorem dX10_valueIn_8 : decode cX10_valueIn 8 = .ok (.ifCond .le 17, 3) := by decide +kernel
theorem dX10_valueIn_11 : decode cX10_valueIn 11 = .ok (.iload_n 3, 1) := by decide +kernel
theorem dX10_valueIn_12 : decode cX10_valueIn 12 = .ok (.iload_n 2, 1) := by decide +kernel
theorem dX10_valueIn_13 : decode cX10_valueIn 13 = .ok (.iconst 1, 1) := by decide +kernel
theorem dX10_valueIn_14 : decode cX10_valueIn 14 = .ok (.isub, 1) := by decide +kernel
theorem dX10_valueIn_15 : decode cX10_valueIn 15 = .ok (.invokestatic 151, 3) := by decide +kernel
theorem dX10_valueIn_18 : decode cX10_valueIn 18 = .ok (.ifCond .eq 7, 3) := by decide +kernel
theorem dX10_valueIn_21 : decode cX10_valueIn 21 = .ok (.iconst 1, 1) := by decide +kernel
theorem dX10_valueIn_22 : decode cX10_valueIn 22 = .ok (.goto 4, 3) := by decide +kernel
theorem dX10_valueIn_25 : decode cX10_valueIn 25 = .ok (.iconst 0, 1) := by decide +kernel
theorem dX10_valueIn_26 : decode cX10_valueIn 26 = .ok (.invokestatic 154, 3) := by decide +kernel
theorem dX10_valueIn_29 : decode cX10_valueIn 29 = .ok (.ireturn, 1) := by decide +kernel
theorem dX10_worthOf_0 : decode cX10_worthOf 0 = .ok (.iconst 0, 1) := by decide +kernel
theorem dX10_worthOf_1 : decode cX10_worthOf 1 = .ok (.istore_n 3, 1) := by decide +kernel
theorem dX10_worthOf_2 : decode cX10_worthOf 2 = .ok (.iconst 0, 1) := by decide +kernel
theorem dX10_worthOf_3 : decode cX10_worthOf 3 = .ok (.istore 4, 2) := by decide +kernel
theorem dX10_worthOf_5 : decode cX10_worthOf 5 = .ok (.iload 4, 2) := by decide +kernel
theorem dX10_worthOf_7 : decode cX10_worthOf 7 = .ok (.bipush 12, 2) := by decide +kernel
theorem dX10_worthOf_9 : decode cX10_worthOf 9 = .ok (.if_icmp .ge 33, 3) := by decide +kernel
theorem dX10_worthOf_12 : decode cX10_worthOf 12 = .ok (.iload_n 3, 1) := by decide +kernel
theorem dX10_worthOf_13 : decode cX10_worthOf 13 = .ok (.iload_n 2, 1) := by decide +kernel
theorem dX10_worthOf_14 : decode cX10_worthOf 14 = .ok (.iload 4, 2) := by decide +kernel
theorem dX10_worthOf_16 : decode cX10_worthOf 16 = .ok (.invokestatic 151, 3) := by decide +kernel
theorem dX10_worthOf_19 : decode cX10_worthOf 19 = .ok (.ifCond .eq 14, 3) := by decide +kernel
theorem dX10_worthOf_22 : decode cX10_worthOf 22 = .ok (.aload_n 0, 1) := by decide +kernel
theorem dX10_worthOf_23 : decode cX10_worthOf 23 = .ok (.iload_n 1, 1) := by decide +kernel
theorem dX10_worthOf_24 : decode cX10_worthOf 24 = .ok (.iload 4, 2) := by decide +kernel
theorem dX10_worthOf_26 : decode cX10_worthOf 26 = .ok (.iload_n 2, 1) := by decide +kernel
theorem dX10_worthOf_27 : decode cX10_worthOf 27 = .ok (.invokevirtual 158, 3) := by decide +kernel
theorem dX10_worthOf_30 : decode cX10_worthOf 30 = .ok (.goto 4, 3) := by decide +kernel
theorem dX10_worthOf_33 : decode cX10_worthOf 33 = .ok (.iconst 0, 1) := by decide +kernel
theorem dX10_worthOf_34 : decode cX10_worthOf 34 = .ok (.iadd, 1) := by decide +kernel
theorem dX10_worthOf_35 : decode cX10_worthOf 35 = .ok (.istore_n 3, 1) := by decide +kernel
theorem dX10_worthOf_36 : decode cX10_worthOf 36 = .ok (.iinc 4 1, 3) := by decide +kernel
theorem dX10_worthOf_39 : decode cX10_worthOf 39 = .ok (.goto (-34), 3) := by decide +kernel
theorem dX10_worthOf_42 : decode cX10_worthOf 42 = .ok (.iload_n 3, 1) := by decide +kernel
theorem dX10_worthOf_43 : decode cX10_worthOf 43 = .ok (.ireturn, 1) := by decide +kernel
theorem dX10_setOf_0 : decode cX10_setOf 0 = .ok (.iconst 0, 1) := by decide +kernel
theorem dX10_setOf_1 : decode cX10_setOf 1 = .ok (.istore_n 2, 1) := by decide +kernel
theorem dX10_setOf_2 : decode cX10_setOf 2 = .ok (.iconst 0, 1) := by decide +kernel
theorem dX10_setOf_3 : decode cX10_setOf 3 = .ok (.istore_n 3, 1) := by decide +kernel
theorem dX10_setOf_4 : decode cX10_setOf 4 = .ok (.iload_n 3, 1) := by decide +kernel
theorem dX10_setOf_5 : decode cX10_setOf 5 = .ok (.bipush 12, 2) := by decide +kernel
theorem dX10_setOf_7 : decode cX10_setOf 7 = .ok (.if_icmp .ge 29, 3) := by decide +kernel
theorem dX10_setOf_10 : decode cX10_setOf 10 = .ok (.iload_n 2, 1) := by decide +kernel
theorem dX10_setOf_11 : decode cX10_setOf 11 = .ok (.aload_n 0, 1) := by decide +kernel
theorem dX10_setOf_12 : decode cX10_setOf 12 = .ok (.getfield 22, 3) := by decide +kernel
theorem dX10_setOf_15 : decode cX10_setOf 15 = .ok (.iload_n 3, 1) := by decide +kernel
theorem dX10_setOf_16 : decode cX10_setOf 16 = .ok (.iaload, 1) := by decide +kernel
theorem dX10_setOf_17 : decode cX10_setOf 17 = .ok (.iload_n 1, 1) := by decide +kernel
theorem dX10_setOf_18 : decode cX10_setOf 18 = .ok (.if_icmp .ne 9, 3) := by decide +kernel
theorem dX10_setOf_21 : decode cX10_setOf 21 = .ok (.iconst 1, 1) := by decide +kernel
theorem dX10_setOf_22 : decode cX10_setOf 22 = .ok (.iload_n 3, 1) := by decide +kernel
theorem dX10_setOf_23 : decode cX10_setOf 23 = .ok (.ishl, 1) := by decide +kernel
theorem dX10_setOf_24 : decode cX10_setOf 24 = .ok (.goto 4, 3) := by decide +kernel
theorem dX10_setOf_27 : decode cX10_setOf 27 = .ok (.iconst 0, 1) := by decide +kernel
theorem dX10_setOf_28 : decode cX10_setOf 28 = .ok (.ior, 1) := by decide +kernel
theorem dX10_setOf_29 : decode cX10_setOf 29 = .ok (.istore_n 2, 1) := by decide +kernel
theorem dX10_setOf_30 : decode cX10_setOf 30 = .ok (.iinc 3 1, 3) := by decide +kernel
theorem dX10_setOf_33 : decode cX10_setOf 33 = .ok (.goto (-29), 3) := by decide +kernel
theorem dX10_setOf_36 : decode cX10_setOf 36 = .ok (.iload_n 2, 1) := by decide +kernel
theorem dX10_setOf_37 : decode cX10_setOf 37 = .ok (.ireturn, 1) := by decide +kernel
theorem dX10_ownWorth_0 : decode cX10_ownWorth 0 = .ok (.aload_n 0, 1) := by decide +kernel
theorem dX10_ownWorth_1 : decode cX10_ownWorth 1 = .ok (.iload_n 1, 1) := by decide +kernel
theorem dX10_ownWorth_2 : decode cX10_ownWorth 2 = .ok (.aload_n 0, 1) := by decide +kernel
theorem dX10_ownWorth_3 : decode cX10_ownWorth 3 = .ok (.iload_n 1, 1) := by decide +kernel
theorem dX10_ownWorth_4 : decode cX10_ownWorth 4 = .ok (.invokevirtual 161, 3) := by decide +kernel
theorem dX10_ownWorth_7 : decode cX10_ownWorth 7 = .ok (.invokevirtual 164, 3) := by decide +kernel
theorem dX10_ownWorth_10 : decode cX10_ownWorth 10 = .ok (.ireturn, 1) := by decide +kernel
theorem dX10_notes_0 : decode cX10_notes 0 = .ok (.aload_n 0, 1) := by decide +kernel
theorem dX10_notes_1 : decode cX10_notes 1 = .ok (.getfield 78, 3) := by decide +kernel
theorem dX10_notes_4 : decode cX10_notes 4 = .ok (.bipush 8, 2) := by decide +kernel
theorem dX10_notes_6 : decode cX10_notes 6 = .ok (.if_icmp .ne 42, 3) := by decide +kernel
theorem dX10_notes_9 : decode cX10_notes 9 = .ok (.iconst 0, 1) := by decide +kernel
theorem dX10_notes_10 : decode cX10_notes 10 = .ok (.istore_n 1, 1) := by decide +kernel
theorem dX10_notes_11 : decode cX10_notes 11 = .ok (.iload_n 1, 1) := by decide +kernel
theorem dX10_notes_12 : decode cX10_notes 12 = .ok (.bipush 119, 2) := by decide +kernel
theorem dX10_notes_14 : decode cX10_notes 14 = .ok (.if_icmp .ge 24, 3) := by decide +kernel
theorem dX10_notes_17 : decode cX10_notes 17 = .ok (.aload_n 0, 1) := by decide +kernel
theorem dX10_notes_18 : decode cX10_notes 18 = .ok (.getfield 46, 3) := by decide +kernel
theorem dX10_notes_21 : decode cX10_notes 21 = .ok (.iload_n 1, 1) := by decide +kernel
theorem dX10_notes_22 : decode cX10_notes 22 = .ok (.aload_n 0, 1) := by decide +kernel
theorem dX10_notes_23 : decode cX10_notes 23 = .ok (.getfield 46, 3) := by decide +kernel
theorem dX10_notes_26 : decode cX10_notes 26 = .ok (.iload_n 1, 1) := by decide +kernel
theorem dX10_notes_27 : decode cX10_notes 27 = .ok (.bipush 17, 2) := by decide +kernel
theorem dX10_notes_29 : decode cX10_notes 29 = .ok (.iadd, 1) := by decide +kernel
theorem dX10_notes_30 : decode cX10_notes 30 = .ok (.iaload, 1) := by decide +kernel
theorem dX10_notes_31 : decode cX10_notes 31 = .ok (.iastore, 1) := by decide +kernel
theorem dX10_notes_32 : decode cX10_notes 32 = .ok (.iinc 1 1, 3) := by decide +kernel
theorem dX10_notes_35 : decode cX10_notes 35 = .ok (.goto (-24), 3) := by decide +kernel
theorem dX10_notes_38 : decode cX10_notes 38 = .ok (.aload_n 0, 1) := by decide +kernel
theorem dX10_notes_39 : decode cX10_notes 39 = .ok (.dup, 1) := by decide +kernel
theorem dX10_notes_40 : decode cX10_notes 40 = .ok (.getfield 78, 3) := by decide +kernel
theorem dX10_notes_43 : decode cX10_notes 43 = .ok (.iconst 1, 1) := by decide +kernel
theorem dX10_notes_44 : decode cX10_notes 44 = .ok (.isub, 1) := by decide +kernel
theorem dX10_notes_45 : decode cX10_notes 45 = .ok (.putfield 78, 3) := by decide +kernel
theorem dX10_notes_48 : decode cX10_notes 48 = .ok (.bipush 17, 2) := by decide +kernel
theorem dX10_notes_50 : decode cX10_notes 50 = .ok (.aload_n 0, 1) := by decide +kernel
theorem dX10_notes_51 : decode cX10_notes 51 = .ok (.getfield 78, 3) := by decide +kernel
theorem dX10_notes_54 : decode cX10_notes 54 = .ok (.imul, 1) := by decide +kernel
theorem dX10_notes_55 : decode cX10_notes 55 = .ok (.istore_n 1, 1) := by decide +kernel
theorem dX10_notes_56 : decode cX10_notes 56 = .ok (.iconst 0, 1) := by decide +kernel
theorem dX10_notes_57 : decode cX10_notes 57 = .ok (.istore_n 2, 1) := by decide +kernel
theorem dX10_notes_58 : decode cX10_notes 58 = .ok (.iload_n 2, 1) := by decide +kernel
theorem dX10_notes_59 : decode cX10_notes 59 = .ok (.bipush 12, 2) := by decide +kernel
theorem dX10_notes_61 : decode cX10_notes 61 = .ok (.if_icmp .ge 23, 3) := by decide +kernel
theorem dX10_notes_64 : decode cX10_notes 64 = .ok (.aload_n 0, 1) := by decide +kernel
theorem dX10_notes_65 : decode cX10_notes 65 = .ok (.getfield 46, 3) := by decide +kernel
theorem dX10_notes_68 : decode cX10_notes 68 = .ok (.iload_n 1, 1) := by decide +kernel
theorem dX10_notes_69 : decode cX10_notes 69 = .ok (.iload_n 2, 1) := by decide +kernel
theorem dX10_notes_70 : decode cX10_notes 70 = .ok (.iadd, 1) := by decide +kernel
theorem dX10_notes_71 : decode cX10_notes 71 = .ok (.aload_n 0, 1) := by decide +kernel
theorem dX10_notes_72 : decode cX10_notes 72 = .ok (.getfield 22, 3) := by decide +kernel
theorem dX10_notes_75 : decode cX10_notes 75 = .ok (.iload_n 2, 1) := by decide +kernel
theorem dX10_notes_76 : decode cX10_notes 76 = .ok (.iaload, 1) := by decide +kernel
theorem dX10_notes_77 : decode cX10_notes 77 = .ok (.iastore, 1) := by decide +kernel
theorem dX10_notes_78 : decode cX10_notes 78 = .ok (.iinc 2 1, 3) := by decide +kernel
theorem dX10_notes_81 : decode cX10_notes 81 = .ok (.goto (-23), 3) := by decide +kernel
theorem dX10_notes_84 : decode cX10_notes 84 = .ok (.iconst 0, 1) := by decide +kernel
theorem dX10_notes_85 : decode cX10_notes 85 = .ok (.istore_n 2, 1) := by decide +kernel
theorem dX10_notes_86 : decode cX10_notes 86 = .ok (.iload_n 2, 1) := by decide +kernel
theorem dX10_notes_87 : decode cX10_notes 87 = .ok (.iconst 5, 1) := by decide +kernel
theorem dX10_notes_88 : decode cX10_notes 88 = .ok (.if_icmp .ge 26, 3) := by decide +kernel
theorem dX10_notes_91 : decode cX10_notes 91 = .ok (.aload_n 0, 1) := by decide +kernel
theorem dX10_notes_92 : decode cX10_notes 92 = .ok (.getfield 46, 3) := by decide +kernel
theorem dX10_notes_95 : decode cX10_notes 95 = .ok (.iload_n 1, 1) := by decide +kernel
theorem dX10_notes_96 : decode cX10_notes 96 = .ok (.bipush 12, 2) := by decide +kernel
theorem dX10_notes_98 : decode cX10_notes 98 = .ok (.iadd, 1) := by decide +kernel
theorem dX10_notes_99 : decode cX10_notes 99 = .ok (.iload_n 2, 1) := by decide +kernel
theorem dX10_notes_100 : decode cX10_notes 100 = .ok (.iadd, 1) := by decide +kernel
theorem dX10_notes_101 : decode cX10_notes 101 = .ok (.aload_n 0, 1) := by decide +kernel
theorem dX10_notes_102 : decode cX10_notes 102 = .ok (.getfield 19, 3) := by decide +kernel
theorem dX10_notes_105 : decode cX10_notes 105 = .ok (.iload_n 2, 1) := by decide +kernel
theorem dX10_notes_106 : decode cX10_notes 106 = .ok (.iaload, 1) := by decide +kernel
theorem dX10_notes_107 : decode cX10_notes 107 = .ok (.iastore, 1) := by decide +kernel
theorem dX10_notes_108 : decode cX10_notes 108 = .ok (.iinc 2 1, 3) := by decide +kernel
theorem dX10_notes_111 : decode cX10_notes 111 = .ok (.goto (-25), 3) := by decide +kernel
theorem dX10_notes_114 : decode cX10_notes 114 = .ok (.aload_n 0, 1) := by decide +kernel
theorem dX10_notes_115 : decode cX10_notes 115 = .ok (.dup, 1) := by decide +kernel
theorem dX10_notes_116 : decode cX10_notes 116 = .ok (.getfield 78, 3) := by decide +kernel
theorem dX10_notes_119 : decode cX10_notes 119 = .ok (.iconst 1, 1) := by decide +kernel
theorem dX10_notes_120 : decode cX10_notes 120 = .ok (.iadd, 1) := by decide +kernel
theorem dX10_notes_121 : decode cX10_notes 121 = .ok (.putfield 78, 3) := by decide +kernel
theorem dX10_notes_124 : decode cX10_notes 124 = .ok (.return_, 1) := by decide +kernel
theorem dX10_give_0 : decode cX10_give 0 = .ok (.iload_n 1, 1) := by decide +kernel
theorem dX10_give_1 : decode cX10_give 1 = .ok (.invokestatic 168, 3) := by decide +kernel
theorem dX10_give_4 : decode cX10_give 4 = .ok (.ifCond .eq 16, 3) := by decide +kernel
theorem dX10_give_7 : decode cX10_give 7 = .ok (.iload_n 2, 1) := by decide +kernel
theorem dX10_give_8 : decode cX10_give 8 = .ok (.iconst (-1), 1) := by decide +kernel
theorem dX10_give_9 : decode cX10_give 9 = .ok (.if_icmp .eq 16, 3) := by decide +kernel
theorem dX10_give_12 : decode cX10_give 12 = .ok (.aload_n 0, 1) := by decide +kernel
theorem dX10_give_13 : decode cX10_give 13 = .ok (.iload_n 2, 1) := by decide +kernel
theorem dX10_give_14 : decode cX10_give 14 = .ok (.invokevirtual 171, 3) := by decide +kernel
theorem dX10_give_17 : decode cX10_give 17 = .ok (.ifCond .ne 8, 3) := by decide +kernel
theorem dX10_give_20 : decode cX10_give 20 = .ok (.aload_n 0, 1) := by decide +kernel
theorem dX10_give_21 : decode cX10_give 21 = .ok (.invokevirtual 174, 3) := by decide +kernel
theorem dX10_give_24 : decode cX10_give 24 = .ok (.ireturn, 1) := by decide +kernel
theorem dX10_give_25 : decode cX10_give 25 = .ok (.aload_n 0, 1) := by decide +kernel
theorem dX10_give_26 : decode cX10_give 26 = .ok (.invokevirtual 177, 3) := by decide +kernel
theorem dX10_give_29 : decode cX10_give 29 = .ok (.aload_n 0, 1) := by decide +kernel
theorem dX10_give_30 : decode cX10_give 30 = .ok (.getfield 22, 3) := by decide +kernel
theorem dX10_give_33 : decode cX10_give 33 = .ok (.iload_n 1, 1) := by decide +kernel
theorem dX10_give_34 : decode cX10_give 34 = .ok (.iaload, 1) := by decide +kernel
theorem dX10_give_35 : decode cX10_give 35 = .ok (.istore_n 3, 1) := by decide +kernel
theorem dX10_give_36 : decode cX10_give 36 = .ok (.aload_n 0, 1) := by decide +kernel
theorem dX10_give_37 : decode cX10_give 37 = .ok (.getfield 22, 3) := by decide +kernel
theorem dX10_give_40 : decode cX10_give 40 = .ok (.iload_n 1, 1) := by decide +kernel
theorem dX10_give_41 : decode cX10_give 41 = .ok (.iload_n 2, 1) := by decide +kernel
theorem dX10_give_42 : decode cX10_give 42 = .ok (.iastore, 1) := by decide +kernel
theorem dX10_give_43 : decode cX10_give 43 = .ok (.iload_n 3, 1) := by decide +kernel
theorem dX10_give_44 : decode cX10_give 44 = .ok (.ireturn, 1) := by decide +kernel
theorem dX10_changes_0 : decode cX10_changes 0 = .ok (.aload_n 0, 1) := by decide +kernel
theorem dX10_changes_1 : decode cX10_changes 1 = .ok (.getfield 22, 3) := by decide +kernel
theorem dX10_changes_4 : decode cX10_changes 4 = .ok (.iload_n 1, 1) := by decide +kernel
theorem dX10_changes_5 : decode cX10_changes 5 = .ok (.iaload, 1) := by decide +kernel
theorem dX10_changes_6 : decode cX10_changes 6 = .ok (.istore_n 3, 1) := by decide +kernel
theorem dX10_changes_7 : decode cX10_changes 7 = .ok (.aload_n 0, 1) := by decide +kernel
theorem dX10_changes_8 : decode cX10_changes 8 = .ok (.getfield 22, 3) := by decide +kernel
theorem dX10_changes_11 : decode cX10_changes 11 = .ok (.iload_n 1, 1) := by decide +kernel
theorem dX10_changes_12 : decode cX10_changes 12 = .ok (.aload_n 0, 1) := by decide +kernel
theorem dX10_changes_13 : decode cX10_changes 13 = .ok (.getfield 22, 3) := by decide +kernel
theorem dX10_changes_16 : decode cX10_changes 16 = .ok (.iload_n 2, 1) := by decide +kernel
theorem dX10_changes_17 : decode cX10_changes 17 = .ok (.iaload, 1) := by decide +kernel
theorem dX10_changes_18 : decode cX10_changes 18 = .ok (.iastore, 1) := by decide +kernel
theorem dX10_changes_19 : decode cX10_changes 19 = .ok (.aload_n 0, 1) := by decide +kernel
theorem dX10_changes_20 : decode cX10_changes 20 = .ok (.getfield 22, 3) := by decide +kernel
theorem dX10_changes_23 : decode cX10_changes 23 = .ok (.iload_n 2, 1) := by decide +kernel
theorem dX10_changes_24 : decode cX10_changes 24 = .ok (.iload_n 3, 1) := by decide +kernel
theorem dX10_changes_25 : decode cX10_changes 25 = .ok (.iastore, 1) := by decide +kernel
theorem dX10_changes_26 : decode cX10_changes 26 = .ok (.return_, 1) := by decide +kernel
theorem dX10_swap_0 : decode cX10_swap 0 = .ok (.iload_n 1, 1) := by decide +kernel
theorem dX10_swap_1 : decode cX10_swap 1 = .ok (.invokestatic 168, 3) := by decide +kernel
theorem dX10_swap_4 : decode cX10_swap 4 = .ok (.ifCond .eq 15, 3) := by decide +kernel
theorem dX10_swap_7 : decode cX10_swap 7 = .ok (.iload_n 2, 1) := by decide +kernel
theorem dX10_swap_8 : decode cX10_swap 8 = .ok (.invokestatic 168, 3) := by decide +kernel
theorem dX10_swap_11 : decode cX10_swap 11 = .ok (.ifCond .eq 8, 3) := by decide +kernel
theorem dX10_swap_14 : decode cX10_swap 14 = .ok (.iload_n 1, 1) := by decide +kernel
theorem dX10_swap_15 : decode cX10_swap 15 = .ok (.iload_n 2, 1) := by decide +kernel
theorem dX10_swap_16 : decode cX10_swap 16 = .ok (.if_icmp .ne 8, 3) := by decide +kernel
theorem dX10_swap_19 : decode cX10_swap 19 = .ok (.aload_n 0, 1) := by decide +kernel
theorem dX10_swap_20 : decode cX10_swap 20 = .ok (.invokevirtual 85, 3) := by decide +kernel
theorem dX10_swap_23 : decode cX10_swap 23 = .ok (.ireturn, 1) := by decide +kernel
theorem dX10_swap_24 : decode cX10_swap 24 = .ok (.aload_n 0, 1) := by decide +kernel
theorem dX10_swap_25 : decode cX10_swap 25 = .ok (.getfield 22, 3) := by decide +kernel
theorem dX10_swap_28 : decode cX10_swap 28 = .ok (.iload_n 1, 1) := by decide +kernel
theorem dX10_swap_29 : decode cX10_swap 29 = .ok (.iaload, 1) := by decide +kernel
theorem dX10_swap_30 : decode cX10_swap 30 = .ok (.iconst (-1), 1) := by decide +kernel
theorem dX10_swap_31 : decode cX10_swap 31 = .ok (.if_icmp .eq 28, 3) := by decide +kernel
theorem dX10_swap_34 : decode cX10_swap 34 = .ok (.aload_n 0, 1) := by decide +kernel
theorem dX10_swap_35 : decode cX10_swap 35 = .ok (.getfield 22, 3) := by decide +kernel
theorem dX10_swap_38 : decode cX10_swap 38 = .ok (.iload_n 2, 1) := by decide +kernel
theorem dX10_swap_39 : decode cX10_swap 39 = .ok (.iaload, 1) := by decide +kernel
theorem dX10_swap_40 : decode cX10_swap 40 = .ok (.iconst (-1), 1) := by decide +kernel
theorem dX10_swap_41 : decode cX10_swap 41 = .ok (.if_icmp .eq 18, 3) := by decide +kernel
theorem dX10_swap_44 : decode cX10_swap 44 = .ok (.aload_n 0, 1) := by decide +kernel
theorem dX10_swap_45 : decode cX10_swap 45 = .ok (.getfield 22, 3) := by decide +kernel
theorem dX10_swap_48 : decode cX10_swap 48 = .ok (.iload_n 1, 1) := by decide +kernel
theorem dX10_swap_49 : decode cX10_swap 49 = .ok (.iaload, 1) := by decide +kernel
theorem dX10_swap_50 : decode cX10_swap 50 = .ok (.aload_n 0, 1) := by decide +kernel
theorem dX10_swap_51 : decode cX10_swap 51 = .ok (.getfield 22, 3) := by decide +kernel
theorem dX10_swap_54 : decode cX10_swap 54 = .ok (.iload_n 2, 1) := by decide +kernel
theorem dX10_swap_55 : decode cX10_swap 55 = .ok (.iaload, 1) := by decide +kernel
theorem dX10_swap_56 : decode cX10_swap 56 = .ok (.if_icmp .ne 8, 3) := by decide +kernel
theorem dX10_swap_59 : decode cX10_swap 59 = .ok (.aload_n 0, 1) := by decide +kernel
theorem dX10_swap_60 : decode cX10_swap 60 = .ok (.invokevirtual 180, 3) := by decide +kernel
theorem dX10_swap_63 : decode cX10_swap 63 = .ok (.ireturn, 1) := by decide +kernel
theorem dX10_swap_64 : decode cX10_swap 64 = .ok (.aload_n 0, 1) := by decide +kernel
theorem dX10_swap_65 : decode cX10_swap 65 = .ok (.invokevirtual 177, 3) := by decide +kernel
theorem dX10_swap_68 : decode cX10_swap 68 = .ok (.aload_n 0, 1) := by decide +kernel
theorem dX10_swap_69 : decode cX10_swap 69 = .ok (.iload_n 1, 1) := by decide +kernel
theorem dX10_swap_70 : decode cX10_swap 70 = .ok (.iload_n 2, 1) := by decide +kernel
theorem dX10_swap_71 : decode cX10_swap 71 = .ok (.invokevirtual 183, 3) := by decide +kernel
theorem dX10_swap_74 : decode cX10_swap 74 = .ok (.iconst 1, 1) := by decide +kernel
theorem dX10_swap_75 : decode cX10_swap 75 = .ok (.ireturn, 1) := by decide +kernel
theorem dX10_sell_0 : decode cX10_sell 0 = .ok (.iload_n 1, 1) := by decide +kernel
theorem dX10_sell_1 : decode cX10_sell 1 = .ok (.invokestatic 168, 3) := by decide +kernel
theorem dX10_sell_4 : decode cX10_sell 4 = .ok (.ifCond .eq 21, 3) := by decide +kernel
theorem dX10_sell_7 : decode cX10_sell 7 = .ok (.aload_n 0, 1) := by decide +kernel
theorem dX10_sell_8 : decode cX10_sell 8 = .ok (.iload_n 2, 1) := by decide +kernel
theorem dX10_sell_9 : decode cX10_sell 9 = .ok (.invokevirtual 171, 3) := by decide +kernel
theorem dX10_sell_12 : decode cX10_sell 12 = .ok (.ifCond .eq 13, 3) := by decide +kernel
theorem dX10_sell_15 : decode cX10_sell 15 = .ok (.iload_n 3, 1) := by decide +kernel
theorem dX10_sell_16 : decode cX10_sell 16 = .ok (.iconst 0, 1) := by decide +kernel
theorem dX10_sell_17 : decode cX10_sell 17 = .ok (.bipush 40, 2) := by decide +kernel
theorem dX10_sell_19 : decode cX10_sell 19 = .ok (.invokestatic 81, 3) := by decide +kernel
theorem dX10_sell_22 : decode cX10_sell 22 = .ok (.ifCond .ne 8, 3) := by decide +kernel
theorem dX10_sell_25 : decode cX10_sell 25 = .ok (.aload_n 0, 1) := by decide +kernel
theorem dX10_sell_26 : decode cX10_sell 26 = .ok (.invokevirtual 85, 3) := by decide +kernel
theorem dX10_sell_29 : decode cX10_sell 29 = .ok (.ireturn, 1) := by decide +kernel
theorem dX10_sell_30 : decode cX10_sell 30 = .ok (.aload_n 0, 1) := by decide +kernel
theorem dX10_sell_31 : decode cX10_sell 31 = .ok (.getfield 22, 3) := by decide +kernel
theorem dX10_sell_34 : decode cX10_sell 34 = .ok (.iload_n 1, 1) := by decide +kernel
theorem dX10_sell_35 : decode cX10_sell 35 = .ok (.iaload, 1) := by decide +kernel
theorem dX10_sell_36 : decode cX10_sell 36 = .ok (.iload_n 2, 1) := by decide +kernel
theorem dX10_sell_37 : decode cX10_sell 37 = .ok (.if_icmp .eq 13, 3) := by decide +kernel
theorem dX10_sell_40 : decode cX10_sell 40 = .ok (.aload_n 0, 1) := by decide +kernel
theorem dX10_sell_41 : decode cX10_sell 41 = .ok (.getfield 19, 3) := by decide +kernel
theorem dX10_sell_44 : decode cX10_sell 44 = .ok (.iload_n 2, 1) := by decide +kernel
theorem dX10_sell_45 : decode cX10_sell 45 = .ok (.iaload, 1) := by decide +kernel
theorem dX10_sell_46 : decode cX10_sell 46 = .ok (.iload_n 3, 1) := by decide +kernel
theorem dX10_sell_47 : decode cX10_sell 47 = .ok (.if_icmp .ge 8, 3) := by decide +kernel
theorem dX10_sell_50 : decode cX10_sell 50 = .ok (.aload_n 0, 1) := by decide +kernel
theorem dX10_sell_51 : decode cX10_sell 51 = .ok (.invokevirtual 180, 3) := by decide +kernel
theorem dX10_sell_54 : decode cX10_sell 54 = .ok (.ireturn, 1) := by decide +kernel
theorem dX10_sell_55 : decode cX10_sell 55 = .ok (.aload_n 0, 1) := by decide +kernel
theorem dX10_sell_56 : decode cX10_sell 56 = .ok (.invokevirtual 177, 3) := by decide +kernel
theorem dX10_sell_59 : decode cX10_sell 59 = .ok (.aload_n 0, 1) := by decide +kernel
theorem dX10_sell_60 : decode cX10_sell 60 = .ok (.getfield 19, 3) := by decide +kernel
theorem dX10_sell_63 : decode cX10_sell 63 = .ok (.iload_n 2, 1) := by decide +kernel
theorem dX10_sell_64 : decode cX10_sell 64 = .ok (.dup2, 1) := by decide +kernel
theorem dX10_sell_65 : decode cX10_sell 65 = .ok (.iaload, 1) := by decide +kernel
theorem dX10_sell_66 : decode cX10_sell 66 = .ok (.iload_n 3, 1) := by decide +kernel
theorem dX10_sell_67 : decode cX10_sell 67 = .ok (.isub, 1) := by decide +kernel
theorem dX10_sell_68 : decode cX10_sell 68 = .ok (.iastore, 1) := by decide +kernel
theorem dX10_sell_69 : decode cX10_sell 69 = .ok (.aload_n 0, 1) := by decide +kernel
theorem dX10_sell_70 : decode cX10_sell 70 = .ok (.getfield 22, 3) := by decide +kernel
theorem dX10_sell_73 : decode cX10_sell 73 = .ok (.iload_n 1, 1) := by decide +kernel
theorem dX10_sell_74 : decode cX10_sell 74 = .ok (.iaload, 1) := by decide +kernel
theorem dX10_sell_75 : decode cX10_sell 75 = .ok (.iconst (-1), 1) := by decide +kernel
theorem dX10_sell_76 : decode cX10_sell 76 = .ok (.if_icmp .eq 18, 3) := by decide +kernel
theorem dX10_sell_79 : decode cX10_sell 79 = .ok (.aload_n 0, 1) := by decide +kernel
theorem dX10_sell_80 : decode cX10_sell 80 = .ok (.getfield 19, 3) := by decide +kernel
theorem dX10_sell_83 : decode cX10_sell 83 = .ok (.aload_n 0, 1) := by decide +kernel
theorem dX10_sell_84 : decode cX10_sell 84 = .ok (.getfield 22, 3) := by decide +kernel
theorem dX10_sell_87 : decode cX10_sell 87 = .ok (.iload_n 1, 1) := by decide +kernel
theorem dX10_sell_88 : decode cX10_sell 88 = .ok (.iaload, 1) := by decide +kernel
theorem dX10_sell_89 : decode cX10_sell 89 = .ok (.dup2, 1) := by decide +kernel
theorem dX10_sell_90 : decode cX10_sell 90 = .ok (.iaload, 1) := by decide +kernel
theorem dX10_sell_91 : decode cX10_sell 91 = .ok (.iload_n 3, 1) := by decide +kernel
theorem dX10_sell_92 : decode cX10_sell 92 = .ok (.iadd, 1) := by decide +kernel
theorem dX10_sell_93 : decode cX10_sell 93 = .ok (.iastore, 1) := by decide +kernel
theorem dX10_sell_94 : decode cX10_sell 94 = .ok (.aload_n 0, 1) := by decide +kernel
theorem dX10_sell_95 : decode cX10_sell 95 = .ok (.getfield 22, 3) := by decide +kernel
theorem dX10_sell_98 : decode cX10_sell 98 = .ok (.iload_n 1, 1) := by decide +kernel
theorem dX10_sell_99 : decode cX10_sell 99 = .ok (.iload_n 2, 1) := by decide +kernel
theorem dX10_sell_100 : decode cX10_sell 100 = .ok (.iastore, 1) := by decide +kernel
theorem dX10_sell_101 : decode cX10_sell 101 = .ok (.aload_n 0, 1) := by decide +kernel
theorem dX10_sell_102 : decode cX10_sell 102 = .ok (.getfield 19, 3) := by decide +kernel
theorem dX10_sell_105 : decode cX10_sell 105 = .ok (.iload_n 2, 1) := by decide +kernel
theorem dX10_sell_106 : decode cX10_sell 106 = .ok (.iaload, 1) := by decide +kernel
theorem dX10_sell_107 : decode cX10_sell 107 = .ok (.ireturn, 1) := by decide +kernel
theorem dX10_greyMany_0 : decode cX10_greyMany 0 = .ok (.aload_n 0, 1) := by decide +kernel
theorem dX10_greyMany_1 : decode cX10_greyMany 1 = .ok (.iconst (-1), 1) := by decide +kernel
theorem dX10_greyMany_2 : decode cX10_greyMany 2 = .ok (.invokevirtual 161, 3) := by decide +kernel
theorem dX10_greyMany_5 : decode cX10_greyMany 5 = .ok (.invokestatic 187, 3) := by decide +kernel
theorem dX10_greyMany_8 : decode cX10_greyMany 8 = .ok (.ireturn, 1) := by decide +kernel
theorem dX10_undo_0 : decode cX10_undo 0 = .ok (.aload_n 0, 1) := by decide +kernel
theorem dX10_undo_1 : decode cX10_undo 1 = .ok (.getfield 78, 3) := by decide +kernel
theorem dX10_undo_4 : decode cX10_undo 4 = .ok (.ifCond .ne 8, 3) := by decide +kernel
theorem dX10_undo_7 : decode cX10_undo 7 = .ok (.aload_n 0, 1) := by decide +kernel
theorem dX10_undo_8 : decode cX10_undo 8 = .ok (.invokevirtual 180, 3) := by decide +kernel
theorem dX10_undo_11 : decode cX10_undo 11 = .ok (.ireturn, 1) := by decide +kernel
theorem dX10_undo_12 : decode cX10_undo 12 = .ok (.aload_n 0, 1) := by decide +kernel
theorem dX10_undo_13 : decode cX10_undo 13 = .ok (.dup, 1) := by decide +kernel
theorem dX10_undo_14 : decode cX10_undo 14 = .ok (.getfield 78, 3) := by decide +kernel
theorem dX10_undo_17 : decode cX10_undo 17 = .ok (.iconst 1, 1) := by decide +kernel
theorem dX10_undo_18 : decode cX10_undo 18 = .ok (.isub, 1) := by decide +kernel
theorem dX10_undo_19 : decode cX10_undo 19 = .ok (.putfield 78, 3) := by decide +kernel
theorem dX10_undo_22 : decode cX10_undo 22 = .ok (.bipush 17, 2) := by decide +kernel
theorem dX10_undo_24 : decode cX10_undo 24 = .ok (.aload_n 0, 1) := by decide +kernel
theorem dX10_undo_25 : decode cX10_undo 25 = .ok (.getfield 78, 3) := by decide +kernel
theorem dX10_undo_28 : decode cX10_undo 28 = .ok (.imul, 1) := by decide +kernel
theorem dX10_undo_29 : decode cX10_undo 29 = .ok (.istore_n 1, 1) := by decide +kernel
theorem dX10_undo_30 : decode cX10_undo 30 = .ok (.iconst 0, 1) := by decide +kernel
theorem dX10_undo_31 : decode cX10_undo 31 = .ok (.istore_n 2, 1) := by decide +kernel
theorem dX10_undo_32 : decode cX10_undo 32 = .ok (.iload_n 2, 1) := by decide +kernel
theorem dX10_undo_33 : decode cX10_undo 33 = .ok (.bipush 12, 2) := by decide +kernel
theorem dX10_undo_35 : decode cX10_undo 35 = .ok (.if_icmp .ge 23, 3) := by decide +kernel
theorem dX10_undo_38 : decode cX10_undo 38 = .ok (.aload_n 0, 1) := by decide +kernel
theorem dX10_undo_39 : decode cX10_undo 39 = .ok (.getfield 22, 3) := by decide +kernel
theorem dX10_undo_42 : decode cX10_undo 42 = .ok (.iload_n 2, 1) := by decide +kernel
theorem dX10_undo_43 : decode cX10_undo 43 = .ok (.aload_n 0, 1) := by decide +kernel
theorem dX10_undo_44 : decode cX10_undo 44 = .ok (.getfield 46, 3) := by decide +kernel
theorem dX10_undo_47 : decode cX10_undo 47 = .ok (.iload_n 1, 1) := by decide +kernel
theorem dX10_undo_48 : decode cX10_undo 48 = .ok (.iload_n 2, 1) := by decide +kernel
theorem dX10_undo_49 : decode cX10_undo 49 = .ok (.iadd, 1) := by decide +kernel
theorem dX10_undo_50 : decode cX10_undo 50 = .ok (.iaload, 1) := by decide +kernel
theorem dX10_undo_51 : decode cX10_undo 51 = .ok (.iastore, 1) := by decide +kernel
theorem dX10_undo_52 : decode cX10_undo 52 = .ok (.iinc 2 1, 3) := by decide +kernel
theorem dX10_undo_55 : decode cX10_undo 55 = .ok (.goto (-23), 3) := by decide +kernel
theorem dX10_undo_58 : decode cX10_undo 58 = .ok (.iconst 0, 1) := by decide +kernel
theorem dX10_undo_59 : decode cX10_undo 59 = .ok (.istore_n 2, 1) := by decide +kernel
theorem dX10_undo_60 : decode cX10_undo 60 = .ok (.iload_n 2, 1) := by decide +kernel
theorem dX10_undo_61 : decode cX10_undo 61 = .ok (.iconst 5, 1) := by decide +kernel
theorem dX10_undo_62 : decode cX10_undo 62 = .ok (.if_icmp .ge 26, 3) := by decide +kernel
theorem dX10_undo_65 : decode cX10_undo 65 = .ok (.aload_n 0, 1) := by decide +kernel
theorem dX10_undo_66 : decode cX10_undo 66 = .ok (.getfield 19, 3) := by decide +kernel
theorem dX10_undo_69 : decode cX10_undo 69 = .ok (.iload_n 2, 1) := by decide +kernel
theorem dX10_undo_70 : decode cX10_undo 70 = .ok (.aload_n 0, 1) := by decide +kernel
theorem dX10_undo_71 : decode cX10_undo 71 = .ok (.getfield 46, 3) := by decide +kernel
theorem dX10_undo_74 : decode cX10_undo 74 = .ok (.iload_n 1, 1) := by decide +kernel
theorem dX10_undo_75 : decode cX10_undo 75 = .ok (.bipush 12, 2) := by decide +kernel
theorem dX10_undo_77 : decode cX10_undo 77 = .ok (.iadd, 1) := by decide +kernel
theorem dX10_undo_78 : decode cX10_undo 78 = .ok (.iload_n 2, 1) := by decide +kernel
theorem dX10_undo_79 : decode cX10_undo 79 = .ok (.iadd, 1) := by decide +kernel
theorem dX10_undo_80 : decode cX10_undo 80 = .ok (.iaload, 1) := by decide +kernel
theorem dX10_undo_81 : decode cX10_undo 81 = .ok (.iastore, 1) := by decide +kernel
theorem dX10_undo_82 : decode cX10_undo 82 = .ok (.iinc 2 1, 3) := by decide +kernel
theorem dX10_undo_85 : decode cX10_undo 85 = .ok (.goto (-25), 3) := by decide +kernel
theorem dX10_undo_88 : decode cX10_undo 88 = .ok (.aload_n 0, 1) := by decide +kernel
theorem dX10_undo_89 : decode cX10_undo 89 = .ok (.invokevirtual 190, 3) := by decide +kernel
theorem dX10_undo_92 : decode cX10_undo 92 = .ok (.ireturn, 1) := by decide +kernel
theorem dX10_of_0 : decode cX10_of 0 = .ok (.aload_n 0, 1) := by decide +kernel
theorem dX10_of_1 : decode cX10_of 1 = .ok (.iload_n 1, 1) := by decide +kernel
theorem dX10_of_2 : decode cX10_of 2 = .ok (.invokevirtual 171, 3) := by decide +kernel
theorem dX10_of_5 : decode cX10_of 5 = .ok (.ifCond .eq 12, 3) := by decide +kernel
theorem dX10_of_8 : decode cX10_of 8 = .ok (.iload_n 2, 1) := by decide +kernel
theorem dX10_of_9 : decode cX10_of 9 = .ok (.iconst 0, 1) := by decide +kernel
theorem dX10_of_10 : decode cX10_of 10 = .ok (.iconst 4, 1) := by decide +kernel
theorem dX10_of_11 : decode cX10_of 11 = .ok (.invokestatic 81, 3) := by decide +kernel
theorem dX10_of_14 : decode cX10_of 14 = .ok (.ifCond .ne 8, 3) := by decide +kernel
theorem dX10_of_17 : decode cX10_of 17 = .ok (.aload_n 0, 1) := by decide +kernel
theorem dX10_of_18 : decode cX10_of 18 = .ok (.invokevirtual 85, 3) := by decide +kernel
theorem dX10_of_21 : decode cX10_of 21 = .ok (.ireturn, 1) := by decide +kernel
theorem dX10_of_22 : decode cX10_of 22 = .ok (.iload_n 2, 1) := by decide +kernel
theorem dX10_of_23 : decode cX10_of 23 = .ok (.tableswitch 56 0 3 #[29, 36, 43, 50], 29) := by decide +kernel
theorem dX10_of_52 : decode cX10_of 52 = .ok (.aload_n 0, 1) := by decide +kernel
theorem dX10_of_53 : decode cX10_of 53 = .ok (.getfield 13, 3) := by decide +kernel
theorem dX10_of_56 : decode cX10_of 56 = .ok (.iload_n 1, 1) := by decide +kernel
theorem dX10_of_57 : decode cX10_of 57 = .ok (.iaload, 1) := by decide +kernel
theorem dX10_of_58 : decode cX10_of 58 = .ok (.ireturn, 1) := by decide +kernel
theorem dX10_of_59 : decode cX10_of 59 = .ok (.aload_n 0, 1) := by decide +kernel
theorem dX10_of_60 : decode cX10_of 60 = .ok (.getfield 16, 3) := by decide +kernel
theorem dX10_of_63 : decode cX10_of 63 = .ok (.iload_n 1, 1) := by decide +kernel
theorem dX10_of_64 : decode cX10_of 64 = .ok (.iaload, 1) := by decide +kernel
theorem dX10_of_65 : decode cX10_of 65 = .ok (.ireturn, 1) := by decide +kernel
theorem dX10_of_66 : decode cX10_of 66 = .ok (.aload_n 0, 1) := by decide +kernel
theorem dX10_of_67 : decode cX10_of 67 = .ok (.getfield 19, 3) := by decide +kernel
theorem dX10_of_70 : decode cX10_of 70 = .ok (.iload_n 1, 1) := by decide +kernel
theorem dX10_of_71 : decode cX10_of 71 = .ok (.iaload, 1) := by decide +kernel
theorem dX10_of_72 : decode cX10_of 72 = .ok (.ireturn, 1) := by decide +kernel
theorem dX10_of_73 : decode cX10_of 73 = .ok (.aload_n 0, 1) := by decide +kernel
theorem dX10_of_74 : decode cX10_of 74 = .ok (.iload_n 1, 1) := by decide +kernel
theorem dX10_of_75 : decode cX10_of 75 = .ok (.invokevirtual 161, 3) := by decide +kernel
theorem dX10_of_78 : decode cX10_of 78 = .ok (.ireturn, 1) := by decide +kernel
theorem dX10_of_79 : decode cX10_of 79 = .ok (.aload_n 0, 1) := by decide +kernel
theorem dX10_of_80 : decode cX10_of 80 = .ok (.iload_n 1, 1) := by decide +kernel
theorem dX10_of_81 : decode cX10_of 81 = .ok (.invokevirtual 193, 3) := by decide +kernel
theorem dX10_of_84 : decode cX10_of 84 = .ok (.ireturn, 1) := by decide +kernel
theorem dX10_worth_0 : decode cX10_worth 0 = .ok (.aload_n 0, 1) := by decide +kernel
theorem dX10_worth_1 : decode cX10_worth 1 = .ok (.iload_n 1, 1) := by decide +kernel
theorem dX10_worth_2 : decode cX10_worth 2 = .ok (.invokevirtual 171, 3) := by decide +kernel
theorem dX10_worth_5 : decode cX10_worth 5 = .ok (.ifCond .eq 23, 3) := by decide +kernel
theorem dX10_worth_8 : decode cX10_worth 8 = .ok (.iload_n 2, 1) := by decide +kernel
theorem dX10_worth_9 : decode cX10_worth 9 = .ok (.iconst 0, 1) := by decide +kernel
theorem dX10_worth_10 : decode cX10_worth 10 = .ok (.sipush 4095, 3) := by decide +kernel
theorem dX10_worth_13 : decode cX10_worth 13 = .ok (.invokestatic 81, 3) := by decide +kernel
theorem dX10_worth_16 : decode cX10_worth 16 = .ok (.ifCond .eq 12, 3) := by decide +kernel
theorem dX10_worth_19 : decode cX10_worth 19 = .ok (.aload_n 0, 1) := by decide +kernel
theorem dX10_worth_20 : decode cX10_worth 20 = .ok (.iload_n 1, 1) := by decide +kernel
theorem dX10_worth_21 : decode cX10_worth 21 = .ok (.iload_n 2, 1) := by decide +kernel
theorem dX10_worth_22 : decode cX10_worth 22 = .ok (.invokevirtual 164, 3) := by decide +kernel
theorem dX10_worth_25 : decode cX10_worth 25 = .ok (.goto 7, 3) := by decide +kernel
theorem dX10_worth_28 : decode cX10_worth 28 = .ok (.aload_n 0, 1) := by decide +kernel
theorem dX10_worth_29 : decode cX10_worth 29 = .ok (.invokevirtual 85, 3) := by decide +kernel
theorem dX10_worth_32 : decode cX10_worth 32 = .ok (.ireturn, 1) := by decide +kernel
theorem dX10_whose_0 : decode cX10_whose 0 = .ok (.iload_n 1, 1) := by decide +kernel
theorem dX10_whose_1 : decode cX10_whose 1 = .ok (.invokestatic 168, 3) := by decide +kernel
theorem dX10_whose_4 : decode cX10_whose 4 = .ok (.ifCond .eq 12, 3) := by decide +kernel
theorem dX10_whose_7 : decode cX10_whose 7 = .ok (.aload_n 0, 1) := by decide +kernel
theorem dX10_whose_8 : decode cX10_whose 8 = .ok (.getfield 22, 3) := by decide +kernel
theorem dX10_whose_11 : decode cX10_whose 11 = .ok (.iload_n 1, 1) := by decide +kernel
theorem dX10_whose_12 : decode cX10_whose 12 = .ok (.iaload, 1) := by decide +kernel
theorem dX10_whose_13 : decode cX10_whose 13 = .ok (.goto 7, 3) := by decide +kernel
theorem dX10_whose_16 : decode cX10_whose 16 = .ok (.aload_n 0, 1) := by decide +kernel
theorem dX10_whose_17 : decode cX10_whose 17 = .ok (.invokevirtual 174, 3) := by decide +kernel
theorem dX10_whose_20 : decode cX10_whose 20 = .ok (.ireturn, 1) := by decide +kernel
theorem dX10_enough_0 : decode cX10_enough 0 = .ok (.iconst 0, 1) := by decide +kernel
theorem dX10_enough_1 : decode cX10_enough 1 = .ok (.istore_n 1, 1) := by decide +kernel
theorem dX10_enough_2 : decode cX10_enough 2 = .ok (.iconst 0, 1) := by decide +kernel
theorem dX10_enough_3 : decode cX10_enough 3 = .ok (.istore_n 2, 1) := by decide +kernel
theorem dX10_enough_4 : decode cX10_enough 4 = .ok (.iload_n 2, 1) := by decide +kernel
theorem dX10_enough_5 : decode cX10_enough 5 = .ok (.aload_n 0, 1) := by decide +kernel
theorem dX10_enough_6 : decode cX10_enough 6 = .ok (.getfield 71, 3) := by decide +kernel
theorem dX10_enough_9 : decode cX10_enough 9 = .ok (.if_icmp .ge 36, 3) := by decide +kernel
theorem dX10_enough_12 : decode cX10_enough 12 = .ok (.iload_n 1, 1) := by decide +kernel
theorem dX10_enough_13 : decode cX10_enough 13 = .ok (.aload_n 0, 1) := by decide +kernel
theorem dX10_enough_14 : decode cX10_enough 14 = .ok (.iload_n 2, 1) := by decide +kernel
theorem dX10_enough_15 : decode cX10_enough 15 = .ok (.invokevirtual 161, 3) := by decide +kernel
theorem dX10_enough_18 : decode cX10_enough 18 = .ok (.invokestatic 187, 3) := by decide +kernel
theorem dX10_enough_21 : decode cX10_enough 21 = .ok (.aload_n 0, 1) := by decide +kernel
theorem dX10_enough_22 : decode cX10_enough 22 = .ok (.getfield 16, 3) := by decide +kernel
theorem dX10_enough_25 : decode cX10_enough 25 = .ok (.iload_n 2, 1) := by decide +kernel
theorem dX10_enough_26 : decode cX10_enough 26 = .ok (.iaload, 1) := by decide +kernel
theorem dX10_enough_27 : decode cX10_enough 27 = .ok (.if_icmp .lt 9, 3) := by decide +kernel
theorem dX10_enough_30 : decode cX10_enough 30 = .ok (.iconst 1, 1) := by decide +kernel
theorem dX10_enough_31 : decode cX10_enough 31 = .ok (.iload_n 2, 1) := by decide +kernel
theorem dX10_enough_32 : decode cX10_enough 32 = .ok (.ishl, 1) := by decide +kernel
theorem dX10_enough_33 : decode cX10_enough 33 = .ok (.goto 4, 3) := by decide +kernel
theorem dX10_enough_36 : decode cX10_enough 36 = .ok (.iconst 0, 1) := by decide +kernel
theorem dX10_enough_37 : decode cX10_enough 37 = .ok (.ior, 1) := by decide +kernel
theorem dX10_enough_38 : decode cX10_enough 38 = .ok (.istore_n 1, 1) := by decide +kernel
theorem dX10_enough_39 : decode cX10_enough 39 = .ok (.iinc 2 1, 3) := by decide +kernel
theorem dX10_enough_42 : decode cX10_enough 42 = .ok (.goto (-38), 3) := by decide +kernel
theorem dX10_enough_45 : decode cX10_enough 45 = .ok (.iload_n 1, 1) := by decide +kernel
theorem dX10_enough_46 : decode cX10_enough 46 = .ok (.ireturn, 1) := by decide +kernel
theorem dX10_envy_0 : decode cX10_envy 0 = .ok (.aload_n 0, 1) := by decide +kernel
theorem dX10_envy_1 : decode cX10_envy 1 = .ok (.iload_n 1, 1) := by decide +kernel
theorem dX10_envy_2 : decode cX10_envy 2 = .ok (.invokevirtual 171, 3) := by decide +kernel
theorem dX10_envy_5 : decode cX10_envy 5 = .ok (.ifCond .ne 8, 3) := by decide +kernel
theorem dX10_envy_8 : decode cX10_envy 8 = .ok (.aload_n 0, 1) := by decide +kernel
theorem dX10_envy_9 : decode cX10_envy 9 = .ok (.invokevirtual 85, 3) := by decide +kernel
theorem dX10_envy_12 : decode cX10_envy 12 = .ok (.ireturn, 1) := by decide +kernel
theorem dX10_envy_13 : decode cX10_envy 13 = .ok (.iconst 0, 1) := by decide +kernel
theorem dX10_envy_14 : decode cX10_envy 14 = .ok (.istore_n 2, 1) := by decide +kernel
theorem dX10_envy_15 : decode cX10_envy 15 = .ok (.iconst 0, 1) := by decide +kernel
theorem dX10_envy_16 : decode cX10_envy 16 = .ok (.istore_n 3, 1) := by decide +kernel
theorem dX10_envy_17 : decode cX10_envy 17 = .ok (.iload_n 3, 1) := by decide +kernel
theorem dX10_envy_18 : decode cX10_envy 18 = .ok (.aload_n 0, 1) := by decide +kernel
theorem dX10_envy_19 : decode cX10_envy 19 = .ok (.getfield 71, 3) := by decide +kernel
theorem dX10_envy_22 : decode cX10_envy 22 = .ok (.if_icmp .ge 37, 3) := by decide +kernel
theorem dX10_envy_25 : decode cX10_envy 25 = .ok (.iload_n 2, 1) := by decide +kernel
theorem dX10_envy_26 : decode cX10_envy 26 = .ok (.aload_n 0, 1) := by decide +kernel
theorem dX10_envy_27 : decode cX10_envy 27 = .ok (.iload_n 1, 1) := by decide +kernel
theorem dX10_envy_28 : decode cX10_envy 28 = .ok (.aload_n 0, 1) := by decide +kernel
theorem dX10_envy_29 : decode cX10_envy 29 = .ok (.iload_n 3, 1) := by decide +kernel
theorem dX10_envy_30 : decode cX10_envy 30 = .ok (.invokevirtual 161, 3) := by decide +kernel
theorem dX10_envy_33 : decode cX10_envy 33 = .ok (.invokevirtual 164, 3) := by decide +kernel
theorem dX10_envy_36 : decode cX10_envy 36 = .ok (.aload_n 0, 1) := by decide +kernel
theorem dX10_envy_37 : decode cX10_envy 37 = .ok (.iload_n 1, 1) := by decide +kernel
theorem dX10_envy_38 : decode cX10_envy 38 = .ok (.invokevirtual 193, 3) := by decide +kernel
theorem dX10_envy_41 : decode cX10_envy 41 = .ok (.if_icmp .le 9, 3) := by decide +kernel
theorem dX10_envy_44 : decode cX10_envy 44 = .ok (.iconst 1, 1) := by decide +kernel
theorem dX10_envy_45 : decode cX10_envy 45 = .ok (.iload_n 3, 1) := by decide +kernel
theorem dX10_envy_46 : decode cX10_envy 46 = .ok (.ishl, 1) := by decide +kernel
theorem dX10_envy_47 : decode cX10_envy 47 = .ok (.goto 4, 3) := by decide +kernel
theorem dX10_envy_50 : decode cX10_envy 50 = .ok (.iconst 0, 1) := by decide +kernel
theorem dX10_envy_51 : decode cX10_envy 51 = .ok (.ior, 1) := by decide +kernel
theorem dX10_envy_52 : decode cX10_envy 52 = .ok (.istore_n 2, 1) := by decide +kernel
theorem dX10_envy_53 : decode cX10_envy 53 = .ok (.iinc 3 1, 3) := by decide +kernel
theorem dX10_envy_56 : decode cX10_envy 56 = .ok (.goto (-39), 3) := by decide +kernel
theorem dX10_envy_59 : decode cX10_envy 59 = .ok (.iload_n 2, 1) := by decide +kernel
theorem dX10_envy_60 : decode cX10_envy 60 = .ok (.ireturn, 1) := by decide +kernel
theorem dX10_isFair_0 : decode cX10_isFair 0 = .ok (.aload_n 0, 1) := by decide +kernel
theorem dX10_isFair_1 : decode cX10_isFair 1 = .ok (.iload_n 1, 1) := by decide +kernel
theorem dX10_isFair_2 : decode cX10_isFair 2 = .ok (.iload_n 2, 1) := by decide +kernel
theorem dX10_isFair_3 : decode cX10_isFair 3 = .ok (.invokevirtual 164, 3) := by decide +kernel
theorem dX10_isFair_6 : decode cX10_isFair 6 = .ok (.aload_n 0, 1) := by decide +kernel
theorem dX10_isFair_7 : decode cX10_isFair 7 = .ok (.getfield 71, 3) := by decide +kernel
theorem dX10_isFair_10 : decode cX10_isFair 10 = .ok (.imul, 1) := by decide +kernel
theorem dX10_isFair_11 : decode cX10_isFair 11 = .ok (.aload_n 0, 1) := by decide +kernel
theorem dX10_isFair_12 : decode cX10_isFair 12 = .ok (.iload_n 1, 1) := by decide +kernel
theorem dX10_isFair_13 : decode cX10_isFair 13 = .ok (.sipush 4095, 3) := by decide +kernel
theorem dX10_isFair_16 : decode cX10_isFair 16 = .ok (.invokevirtual 164, 3) := by decide +kernel
theorem dX10_isFair_19 : decode cX10_isFair 19 = .ok (.if_icmp .lt 7, 3) := by decide +kernel
theorem dX10_isFair_22 : decode cX10_isFair 22 = .ok (.iconst 1, 1) := by decide +kernel
theorem dX10_isFair_23 : decode cX10_isFair 23 = .ok (.goto 4, 3) := by decide +kernel
theorem dX10_isFair_26 : decode cX10_isFair 26 = .ok (.iconst 0, 1) := by decide +kernel
theorem dX10_isFair_27 : decode cX10_isFair 27 = .ok (.ireturn, 1) := by decide +kernel
theorem dX10_fair_0 : decode cX10_fair 0 = .ok (.aload_n 0, 1) := by decide +kernel
theorem dX10_fair_1 : decode cX10_fair 1 = .ok (.iload_n 1, 1) := by decide +kernel
theorem dX10_fair_2 : decode cX10_fair 2 = .ok (.invokevirtual 171, 3) := by decide +kernel
theorem dX10_fair_5 : decode cX10_fair 5 = .ok (.ifCond .ne 10, 3) := by decide +kernel
theorem dX10_fair_8 : decode cX10_fair 8 = .ok (.aload_n 0, 1) := by decide +kernel
theorem dX10_fair_9 : decode cX10_fair 9 = .ok (.invokevirtual 85, 3) := by decide +kernel
theorem dX10_fair_12 : decode cX10_fair 12 = .ok (.goto 21, 3) := by decide +kernel
theorem dX10_fair_15 : decode cX10_fair 15 = .ok (.aload_n 0, 1) := by decide +kernel
theorem dX10_fair_16 : decode cX10_fair 16 = .ok (.iload_n 1, 1) := by decide +kernel
theorem dX10_fair_17 : decode cX10_fair 17 = .ok (.aload_n 0, 1) := by decide +kernel
theorem dX10_fair_18 : decode cX10_fair 18 = .ok (.iload_n 1, 1) := by decide +kernel
theorem dX10_fair_19 : decode cX10_fair 19 = .ok (.invokevirtual 161, 3) := by decide +kernel
theorem dX10_fair_22 : decode cX10_fair 22 = .ok (.invokevirtual 196, 3) := by decide +kernel
theorem dX10_fair_25 : decode cX10_fair 25 = .ok (.ifCond .eq 7, 3) := by decide +kernel
theorem dX10_fair_28 : decode cX10_fair 28 = .ok (.iconst 1, 1) := by decide +kernel
theorem dX10_fair_29 : decode cX10_fair 29 = .ok (.goto 4, 3) := by decide +kernel
theorem dX10_fair_32 : decode cX10_fair 32 = .ok (.iconst 0, 1) := by decide +kernel
theorem dX10_fair_33 : decode cX10_fair 33 = .ok (.ireturn, 1) := by decide +kernel
theorem dX10_pieceEnd_0 : decode cX10_pieceEnd 0 = .ok (.iconst 0, 1) := by decide +kernel
theorem dX10_pieceEnd_1 : decode cX10_pieceEnd 1 = .ok (.istore_n 3, 1) := by decide +kernel
theorem dX10_pieceEnd_2 : decode cX10_pieceEnd 2 = .ok (.iload_n 2, 1) := by decide +kernel
theorem dX10_pieceEnd_3 : decode cX10_pieceEnd 3 = .ok (.istore 4, 2) := by decide +kernel
theorem dX10_pieceEnd_5 : decode cX10_pieceEnd 5 = .ok (.iload 4, 2) := by decide +kernel
theorem dX10_pieceEnd_7 : decode cX10_pieceEnd 7 = .ok (.bipush 12, 2) := by decide +kernel
theorem dX10_pieceEnd_9 : decode cX10_pieceEnd 9 = .ok (.if_icmp .gt 39, 3) := by decide +kernel
theorem dX10_pieceEnd_12 : decode cX10_pieceEnd 12 = .ok (.aload_n 0, 1) := by decide +kernel
theorem dX10_pieceEnd_13 : decode cX10_pieceEnd 13 = .ok (.iload_n 1, 1) := by decide +kernel
theorem dX10_pieceEnd_14 : decode cX10_pieceEnd 14 = .ok (.iload_n 3, 1) := by decide +kernel
theorem dX10_pieceEnd_15 : decode cX10_pieceEnd 15 = .ok (.invokevirtual 196, 3) := by decide +kernel
theorem dX10_pieceEnd_18 : decode cX10_pieceEnd 18 = .ok (.ifCond .eq 6, 3) := by decide +kernel
theorem dX10_pieceEnd_21 : decode cX10_pieceEnd 21 = .ok (.iload 4, 2) := by decide +kernel
theorem dX10_pieceEnd_23 : decode cX10_pieceEnd 23 = .ok (.ireturn, 1) := by decide +kernel
theorem dX10_pieceEnd_24 : decode cX10_pieceEnd 24 = .ok (.iload_n 3, 1) := by decide +kernel
theorem dX10_pieceEnd_25 : decode cX10_pieceEnd 25 = .ok (.iload 4, 2) := by decide +kernel
theorem dX10_pieceEnd_27 : decode cX10_pieceEnd 27 = .ok (.bipush 12, 2) := by decide +kernel
theorem dX10_pieceEnd_29 : decode cX10_pieceEnd 29 = .ok (.if_icmp .ge 10, 3) := by decide +kernel
theorem dX10_pieceEnd_32 : decode cX10_pieceEnd 32 = .ok (.iconst 1, 1) := by decide +kernel
theorem dX10_pieceEnd_33 : decode cX10_pieceEnd 33 = .ok (.iload 4, 2) := by decide +kernel
theorem dX10_pieceEnd_35 : decode cX10_pieceEnd 35 = .ok (.ishl, 1) := by decide +kernel
theorem dX10_pieceEnd_36 : decode cX10_pieceEnd 36 = .ok (.goto 4, 3) := by decide +kernel
theorem dX10_pieceEnd_39 : decode cX10_pieceEnd 39 = .ok (.iconst 0, 1) := by decide +kernel
theorem dX10_pieceEnd_40 : decode cX10_pieceEnd 40 = .ok (.ior, 1) := by decide +kernel
theorem dX10_pieceEnd_41 : decode cX10_pieceEnd 41 = .ok (.istore_n 3, 1) := by decide +kernel
theorem dX10_pieceEnd_42 : decode cX10_pieceEnd 42 = .ok (.iinc 4 1, 3) := by decide +kernel
theorem dX10_pieceEnd_45 : decode cX10_pieceEnd 45 = .ok (.goto (-40), 3) := by decide +kernel
theorem dX10_pieceEnd_48 : decode cX10_pieceEnd 48 = .ok (.bipush 13, 2) := by decide +kernel
theorem dX10_pieceEnd_50 : decode cX10_pieceEnd 50 = .ok (.ireturn, 1) := by decide +kernel
theorem dX10_takenBy_0 : decode cX10_takenBy 0 = .ok (.iconst 0, 1) := by decide +kernel
theorem dX10_takenBy_1 : decode cX10_takenBy 1 = .ok (.istore_n 1, 1) := by decide +kernel
theorem dX10_takenBy_2 : decode cX10_takenBy 2 = .ok (.iconst 0, 1) := by decide +kernel
theorem dX10_takenBy_3 : decode cX10_takenBy 3 = .ok (.istore_n 2, 1) := by decide +kernel
theorem dX10_takenBy_4 : decode cX10_takenBy 4 = .ok (.iload_n 2, 1) := by decide +kernel
theorem dX10_takenBy_5 : decode cX10_takenBy 5 = .ok (.aload_n 0, 1) := by decide +kernel
theorem dX10_takenBy_6 : decode cX10_takenBy 6 = .ok (.getfield 71, 3) := by decide +kernel
theorem dX10_takenBy_9 : decode cX10_takenBy 9 = .ok (.if_icmp .ge 27, 3) := by decide +kernel
theorem dX10_takenBy_12 : decode cX10_takenBy 12 = .ok (.iload_n 1, 1) := by decide +kernel
theorem dX10_takenBy_13 : decode cX10_takenBy 13 = .ok (.bipush 12, 2) := by decide +kernel
theorem dX10_takenBy_15 : decode cX10_takenBy 15 = .ok (.if_icmp .gt 21, 3) := by decide +kernel
theorem dX10_takenBy_18 : decode cX10_takenBy 18 = .ok (.aload_n 0, 1) := by decide +kernel
theorem dX10_takenBy_19 : decode cX10_takenBy 19 = .ok (.aload_n 0, 1) := by decide +kernel
theorem dX10_takenBy_20 : decode cX10_takenBy 20 = .ok (.getfield 49, 3) := by decide +kernel
theorem dX10_takenBy_23 : decode cX10_takenBy 23 = .ok (.iload_n 2, 1) := by decide +kernel
theorem dX10_takenBy_24 : decode cX10_takenBy 24 = .ok (.iaload, 1) := by decide +kernel
theorem dX10_takenBy_25 : decode cX10_takenBy 25 = .ok (.iload_n 1, 1) := by decide +kernel
theorem dX10_takenBy_26 : decode cX10_takenBy 26 = .ok (.invokevirtual 199, 3) := by decide +kernel
theorem dX10_takenBy_29 : decode cX10_takenBy 29 = .ok (.istore_n 1, 1) := by decide +kernel
theorem dX10_takenBy_30 : decode cX10_takenBy 30 = .ok (.iinc 2 1, 3) := by decide +kernel
theorem dX10_takenBy_33 : decode cX10_takenBy 33 = .ok (.goto (-29), 3) := by decide +kernel
theorem dX10_takenBy_36 : decode cX10_takenBy 36 = .ok (.iload_n 1, 1) := by decide +kernel
theorem dX10_takenBy_37 : decode cX10_takenBy 37 = .ok (.ireturn, 1) := by decide +kernel
theorem dX10_nextLine_0 : decode cX10_nextLine 0 = .ok (.aload_n 0, 1) := by decide +kernel
theorem dX10_nextLine_1 : decode cX10_nextLine 1 = .ok (.getfield 71, 3) := by decide +kernel
theorem dX10_nextLine_4 : decode cX10_nextLine 4 = .ok (.iconst 2, 1) := by decide +kernel
theorem dX10_nextLine_5 : decode cX10_nextLine 5 = .ok (.isub, 1) := by decide +kernel
theorem dX10_nextLine_6 : decode cX10_nextLine 6 = .ok (.istore_n 1, 1) := by decide +kernel
theorem dX10_nextLine_7 : decode cX10_nextLine 7 = .ok (.iload_n 1, 1) := by decide +kernel
theorem dX10_nextLine_8 : decode cX10_nextLine 8 = .ok (.ifCond .lt 26, 3) := by decide +kernel
theorem dX10_nextLine_11 : decode cX10_nextLine 11 = .ok (.aload_n 0, 1) := by decide +kernel
theorem dX10_nextLine_12 : decode cX10_nextLine 12 = .ok (.getfield 49, 3) := by decide +kernel
theorem dX10_nextLine_15 : decode cX10_nextLine 15 = .ok (.iload_n 1, 1) := by decide +kernel
theorem dX10_nextLine_16 : decode cX10_nextLine 16 = .ok (.iaload, 1) := by decide +kernel
theorem dX10_nextLine_17 : decode cX10_nextLine 17 = .ok (.aload_n 0, 1) := by decide +kernel
theorem dX10_nextLine_18 : decode cX10_nextLine 18 = .ok (.getfield 49, 3) := by decide +kernel
theorem dX10_nextLine_21 : decode cX10_nextLine 21 = .ok (.iload_n 1, 1) := by decide +kernel
theorem dX10_nextLine_22 : decode cX10_nextLine 22 = .ok (.iconst 1, 1) := by decide +kernel
theorem dX10_nextLine_23 : decode cX10_nextLine 23 = .ok (.iadd, 1) := by decide +kernel
theorem dX10_nextLine_24 : decode cX10_nextLine 24 = .ok (.iaload, 1) := by decide +kernel
theorem dX10_nextLine_25 : decode cX10_nextLine 25 = .ok (.if_icmp .le 9, 3) := by decide +kernel
theorem dX10_nextLine_28 : decode cX10_nextLine 28 = .ok (.iinc 1 (-1), 3) := by decide +kernel
theorem dX10_nextLine_31 : decode cX10_nextLine 31 = .ok (.goto (-24), 3) := by decide +kernel
theorem dX10_nextLine_34 : decode cX10_nextLine 34 = .ok (.iload_n 1, 1) := by decide +kernel
theorem dX10_nextLine_35 : decode cX10_nextLine 35 = .ok (.ifCond .ge 5, 3) := by decide +kernel
theorem dX10_nextLine_38 : decode cX10_nextLine 38 = .ok (.iconst 0, 1) := by decide +kernel
theorem dX10_nextLine_39 : decode cX10_nextLine 39 = .ok (.ireturn, 1) := by decide +kernel
theorem dX10_nextLine_40 : decode cX10_nextLine 40 = .ok (.aload_n 0, 1) := by decide +kernel
theorem dX10_nextLine_41 : decode cX10_nextLine 41 = .ok (.getfield 71, 3) := by decide +kernel
theorem dX10_nextLine_44 : decode cX10_nextLine 44 = .ok (.iconst 1, 1) := by decide +kernel
theorem dX10_nextLine_45 : decode cX10_nextLine 45 = .ok (.isub, 1) := by decide +kernel
theorem dX10_nextLine_46 : decode cX10_nextLine 46 = .ok (.istore_n 2, 1) := by decide +kernel
theorem dX10_nextLine_47 : decode cX10_nextLine 47 = .ok (.aload_n 0, 1) := by decide +kernel
theorem dX10_nextLine_48 : decode cX10_nextLine 48 = .ok (.getfield 49, 3) := by decide +kernel
theorem dX10_nextLine_51 : decode cX10_nextLine 51 = .ok (.iload_n 2, 1) := by decide +kernel
theorem dX10_nextLine_52 : decode cX10_nextLine 52 = .ok (.iaload, 1) := by decide +kernel
theorem dX10_nextLine_53 : decode cX10_nextLine 53 = .ok (.aload_n 0, 1) := by decide +kernel
theorem dX10_nextLine_54 : decode cX10_nextLine 54 = .ok (.getfield 49, 3) := by decide +kernel
theorem dX10_nextLine_57 : decode cX10_nextLine 57 = .ok (.iload_n 1, 1) := by decide +kernel
theorem dX10_nextLine_58 : decode cX10_nextLine 58 = .ok (.iaload, 1) := by decide +kernel
theorem dX10_nextLine_59 : decode cX10_nextLine 59 = .ok (.if_icmp .ge 9, 3) := by decide +kernel
theorem dX10_nextLine_62 : decode cX10_nextLine 62 = .ok (.iinc 2 (-1), 3) := by decide +kernel
theorem dX10_nextLine_65 : decode cX10_nextLine 65 = .ok (.goto (-18), 3) := by decide +kernel
theorem dX10_nextLine_68 : decode cX10_nextLine 68 = .ok (.aload_n 0, 1) := by decide +kernel
theorem dX10_nextLine_69 : decode cX10_nextLine 69 = .ok (.getfield 49, 3) := by decide +kernel
theorem dX10_nextLine_72 : decode cX10_nextLine 72 = .ok (.iload_n 1, 1) := by decide +kernel
theorem dX10_nextLine_73 : decode cX10_nextLine 73 = .ok (.iaload, 1) := by decide +kernel
theorem dX10_nextLine_74 : decode cX10_nextLine 74 = .ok (.istore_n 3, 1) := by decide +kernel
theorem dX10_nextLine_75 : decode cX10_nextLine 75 = .ok (.aload_n 0, 1) := by decide +kernel
theorem dX10_nextLine_76 : decode cX10_nextLine 76 = .ok (.getfield 49, 3) := by decide +kernel
theorem dX10_nextLine_79 : decode cX10_nextLine 79 = .ok (.iload_n 1, 1) := by decide +kernel
theorem dX10_nextLine_80 : decode cX10_nextLine 80 = .ok (.aload_n 0, 1) := by decide +kernel
theorem dX10_nextLine_81 : decode cX10_nextLine 81 = .ok (.getfield 49, 3) := by decide +kernel
theorem dX10_nextLine_84 : decode cX10_nextLine 84 = .ok (.iload_n 2, 1) := by decide +kernel
theorem dX10_nextLine_85 : decode cX10_nextLine 85 = .ok (.iaload, 1) := by decide +kernel
theorem dX10_nextLine_86 : decode cX10_nextLine 86 = .ok (.iastore, 1) := by decide +kernel
theorem dX10_nextLine_87 : decode cX10_nextLine 87 = .ok (.aload_n 0, 1) := by decide +kernel
theorem dX10_nextLine_88 : decode cX10_nextLine 88 = .ok (.getfield 49, 3) := by decide +kernel
theorem dX10_nextLine_91 : decode cX10_nextLine 91 = .ok (.iload_n 2, 1) := by decide +kernel
theorem dX10_nextLine_92 : decode cX10_nextLine 92 = .ok (.iload_n 3, 1) := by decide +kernel
theorem dX10_nextLine_93 : decode cX10_nextLine 93 = .ok (.iastore, 1) := by decide +kernel
theorem dX10_nextLine_94 : decode cX10_nextLine 94 = .ok (.iload_n 1, 1) := by decide +kernel
theorem dX10_nextLine_95 : decode cX10_nextLine 95 = .ok (.iconst 1, 1) := by decide +kernel
theorem dX10_nextLine_96 : decode cX10_nextLine 96 = .ok (.iadd, 1) := by decide +kernel
theorem dX10_nextLine_97 : decode cX10_nextLine 97 = .ok (.istore 4, 2) := by decide +kernel
theorem dX10_nextLine_99 : decode cX10_nextLine 99 = .ok (.aload_n 0, 1) := by decide +kernel
theorem dX10_nextLine_100 : decode cX10_nextLine 100 = .ok (.getfield 71, 3) := by decide +kernel
theorem dX10_nextLine_103 : decode cX10_nextLine 103 = .ok (.iconst 1, 1) := by decide +kernel
theorem dX10_nextLine_104 : decode cX10_nextLine 104 = .ok (.isub, 1) := by decide +kernel
theorem dX10_nextLine_105 : decode cX10_nextLine 105 = .ok (.istore 5, 2) := by decide +kernel
theorem dX10_nextLine_107 : decode cX10_nextLine 107 = .ok (.iload 4, 2) := by decide +kernel
theorem dX10_nextLine_109 : decode cX10_nextLine 109 = .ok (.iload 5, 2) := by decide +kernel
theorem dX10_nextLine_111 : decode cX10_nextLine 111 = .ok (.if_icmp .ge 42, 3) := by decide +kernel
theorem dX10_nextLine_114 : decode cX10_nextLine 114 = .ok (.aload_n 0, 1) := by decide +kernel
theorem dX10_nextLine_115 : decode cX10_nextLine 115 = .ok (.getfield 49, 3) := by decide +kernel
theorem dX10_nextLine_118 : decode cX10_nextLine 118 = .ok (.iload 4, 2) := by decide +kernel
theorem dX10_nextLine_120 : decode cX10_nextLine 120 = .ok (.iaload, 1) := by decide +kernel
theorem dX10_nextLine_121 : decode cX10_nextLine 121 = .ok (.istore_n 3, 1) := by decide +kernel
theorem dX10_nextLine_122 : decode cX10_nextLine 122 = .ok (.aload_n 0, 1) := by decide +kernel
theorem dX10_nextLine_123 : decode cX10_nextLine 123 = .ok (.getfield 49, 3) := by decide +kernel
theorem dX10_nextLine_126 : decode cX10_nextLine 126 = .ok (.iload 4, 2) := by decide +kernel
theorem dX10_nextLine_128 : decode cX10_nextLine 128 = .ok (.aload_n 0, 1) := by decide +kernel
theorem dX10_nextLine_129 : decode cX10_nextLine 129 = .ok (.getfield 49, 3) := by decide +kernel
theorem dX10_nextLine_132 : decode cX10_nextLine 132 = .ok (.iload 5, 2) := by decide +kernel
theorem dX10_nextLine_134 : decode cX10_nextLine 134 = .ok (.iaload, 1) := by decide +kernel
theorem dX10_nextLine_135 : decode cX10_nextLine 135 = .ok (.iastore, 1) := by decide +kernel
theorem dX10_nextLine_136 : decode cX10_nextLine 136 = .ok (.aload_n 0, 1) := by decide +kernel
theorem dX10_nextLine_137 : decode cX10_nextLine 137 = .ok (.getfield 49, 3) := by decide +kernel
theorem dX10_nextLine_140 : decode cX10_nextLine 140 = .ok (.iload 5, 2) := by decide +kernel
theorem dX10_nextLine_142 : decode cX10_nextLine 142 = .ok (.iload_n 3, 1) := by decide +kernel
theorem dX10_nextLine_143 : decode cX10_nextLine 143 = .ok (.iastore, 1) := by decide +kernel
theorem dX10_nextLine_144 : decode cX10_nextLine 144 = .ok (.iinc 4 1, 3) := by decide +kernel
theorem dX10_nextLine_147 : decode cX10_nextLine 147 = .ok (.iinc 5 (-1), 3) := by decide +kernel
theorem dX10_nextLine_150 : decode cX10_nextLine 150 = .ok (.goto (-43), 3) := by decide +kernel
theorem dX10_nextLine_153 : decode cX10_nextLine 153 = .ok (.iconst 1, 1) := by decide +kernel
theorem dX10_nextLine_154 : decode cX10_nextLine 154 = .ok (.ireturn, 1) := by decide +kernel
theorem dX10_pieces_0 : decode cX10_pieces 0 = .ok (.iload_n 1, 1) := by decide +kernel
theorem dX10_pieces_1 : decode cX10_pieces 1 = .ok (.iconst (-1), 1) := by decide +kernel
theorem dX10_pieces_2 : decode cX10_pieces 2 = .ok (.if_icmp .ge 8, 3) := by decide +kernel
theorem dX10_pieces_5 : decode cX10_pieces 5 = .ok (.aload_n 0, 1) := by decide +kernel
theorem dX10_pieces_6 : decode cX10_pieces 6 = .ok (.invokevirtual 174, 3) := by decide +kernel
theorem dX10_pieces_9 : decode cX10_pieces 9 = .ok (.ireturn, 1) := by decide +kernel
theorem dX10_pieces_10 : decode cX10_pieces 10 = .ok (.iconst 0, 1) := by decide +kernel
theorem dX10_pieces_11 : decode cX10_pieces 11 = .ok (.istore_n 2, 1) := by decide +kernel
theorem dX10_pieces_12 : decode cX10_pieces 12 = .ok (.iload_n 2, 1) := by decide +kernel
theorem dX10_pieces_13 : decode cX10_pieces 13 = .ok (.aload_n 0, 1) := by decide +kernel
theorem dX10_pieces_14 : decode cX10_pieces 14 = .ok (.getfield 71, 3) := by decide +kernel
theorem dX10_pieces_17 : decode cX10_pieces 17 = .ok (.if_icmp .ge 16, 3) := by decide +kernel
theorem dX10_pieces_20 : decode cX10_pieces 20 = .ok (.aload_n 0, 1) := by decide +kernel
theorem dX10_pieces_21 : decode cX10_pieces 21 = .ok (.getfield 49, 3) := by decide +kernel
theorem dX10_pieces_24 : decode cX10_pieces 24 = .ok (.iload_n 2, 1) := by decide +kernel
theorem dX10_pieces_25 : decode cX10_pieces 25 = .ok (.iload_n 2, 1) := by decide +kernel
theorem dX10_pieces_26 : decode cX10_pieces 26 = .ok (.iastore, 1) := by decide +kernel
theorem dX10_pieces_27 : decode cX10_pieces 27 = .ok (.iinc 2 1, 3) := by decide +kernel
theorem dX10_pieces_30 : decode cX10_pieces 30 = .ok (.goto (-18), 3) := by decide +kernel
theorem dX10_pieces_33 : decode cX10_pieces 33 = .ok (.bipush 13, 2) := by decide +kernel
theorem dX10_pieces_35 : decode cX10_pieces 35 = .ok (.istore_n 2, 1) := by decide +kernel
theorem dX10_pieces_36 : decode cX10_pieces 36 = .ok (.iconst 1, 1) := by decide +kernel
theorem dX10_pieces_37 : decode cX10_pieces 37 = .ok (.istore_n 3, 1) := by decide +kernel
theorem dX10_pieces_38 : decode cX10_pieces 38 = .ok (.iload_n 3, 1) := by decide +kernel
theorem dX10_pieces_39 : decode cX10_pieces 39 = .ok (.ifCond .eq 68, 3) := by decide +kernel
theorem dX10_pieces_42 : decode cX10_pieces 42 = .ok (.aload_n 0, 1) := by decide +kernel
theorem dX10_pieces_43 : decode cX10_pieces 43 = .ok (.invokevirtual 202, 3) := by decide +kernel
theorem dX10_pieces_46 : decode cX10_pieces 46 = .ok (.istore 4, 2) := by decide +kernel
theorem dX10_pieces_48 : decode cX10_pieces 48 = .ok (.iconst 0, 1) := by decide +kernel
theorem dX10_pieces_49 : decode cX10_pieces 49 = .ok (.istore 5, 2) := by decide +kernel
theorem dX10_pieces_51 : decode cX10_pieces 51 = .ok (.iload 5, 2) := by decide +kernel
theorem dX10_pieces_53 : decode cX10_pieces 53 = .ok (.aload_n 0, 1) := by decide +kernel
theorem dX10_pieces_54 : decode cX10_pieces 54 = .ok (.getfield 71, 3) := by decide +kernel
theorem dX10_pieces_57 : decode cX10_pieces 57 = .ok (.if_icmp .ge 29, 3) := by decide +kernel
theorem dX10_pieces_60 : decode cX10_pieces 60 = .ok (.iload 4, 2) := by decide +kernel
theorem dX10_pieces_62 : decode cX10_pieces 62 = .ok (.iload_n 2, 1) := by decide +kernel
theorem dX10_pieces_63 : decode cX10_pieces 63 = .ok (.if_icmp .ge 23, 3) := by decide +kernel
theorem dX10_pieces_66 : decode cX10_pieces 66 = .ok (.aload_n 0, 1) := by decide +kernel
theorem dX10_pieces_67 : decode cX10_pieces 67 = .ok (.getfield 52, 3) := by decide +kernel
theorem dX10_pieces_70 : decode cX10_pieces 70 = .ok (.iload 5, 2) := by decide +kernel
theorem dX10_pieces_72 : decode cX10_pieces 72 = .ok (.aload_n 0, 1) := by decide +kernel
theorem dX10_pieces_73 : decode cX10_pieces 73 = .ok (.getfield 49, 3) := by decide +kernel
theorem dX10_pieces_76 : decode cX10_pieces 76 = .ok (.iload 5, 2) := by decide +kernel
theorem dX10_pieces_78 : decode cX10_pieces 78 = .ok (.iaload, 1) := by decide +kernel
theorem dX10_pieces_79 : decode cX10_pieces 79 = .ok (.iastore, 1) := by decide +kernel
theorem dX10_pieces_80 : decode cX10_pieces 80 = .ok (.iinc 5 1, 3) := by decide +kernel
theorem dX10_pieces_83 : decode cX10_pieces 83 = .ok (.goto (-32), 3) := by decide +kernel
theorem dX10_pieces_86 : decode cX10_pieces 86 = .ok (.iload 4, 2) := by decide +kernel
theorem dX10_pieces_88 : decode cX10_pieces 88 = .ok (.iload_n 2, 1) := by decide +kernel
theorem dX10_pieces_89 : decode cX10_pieces 89 = .ok (.if_icmp .ge 8, 3) := by decide +kernel
theorem dX10_pieces_92 : decode cX10_pieces 92 = .ok (.iload 4, 2) := by decide +kernel
theorem dX10_pieces_94 : decode cX10_pieces 94 = .ok (.goto 4, 3) := by decide +kernel
theorem dX10_pieces_97 : decode cX10_pieces 97 = .ok (.iload_n 2, 1) := by decide +kernel
theorem dX10_pieces_98 : decode cX10_pieces 98 = .ok (.istore_n 2, 1) := by decide +kernel
theorem dX10_pieces_99 : decode cX10_pieces 99 = .ok (.aload_n 0, 1) := by decide +kernel
theorem dX10_pieces_100 : decode cX10_pieces 100 = .ok (.invokevirtual 205, 3) := by decide +kernel
theorem dX10_pieces_103 : decode cX10_pieces 103 = .ok (.istore_n 3, 1) := by decide +kernel
theorem dX10_pieces_104 : decode cX10_pieces 104 = .ok (.goto (-66), 3) := by decide +kernel
theorem dX10_pieces_107 : decode cX10_pieces 107 = .ok (.iload_n 2, 1) := by decide +kernel
theorem dX10_pieces_108 : decode cX10_pieces 108 = .ok (.bipush 12, 2) := by decide +kernel
theorem dX10_pieces_110 : decode cX10_pieces 110 = .ok (.if_icmp .le 5, 3) := by decide +kernel
theorem dX10_pieces_113 : decode cX10_pieces 113 = .ok (.iconst (-1), 1) := by decide +kernel
theorem dX10_pieces_114 : decode cX10_pieces 114 = .ok (.ireturn, 1) := by decide +kernel
theorem dX10_pieces_115 : decode cX10_pieces 115 = .ok (.iload_n 1, 1) := by decide +kernel
theorem dX10_pieces_116 : decode cX10_pieces 116 = .ok (.iconst (-1), 1) := by decide +kernel
theorem dX10_pieces_117 : decode cX10_pieces 117 = .ok (.if_icmp .ne 7, 3) := by decide +kernel
theorem dX10_pieces_120 : decode cX10_pieces 120 = .ok (.iload_n 2, 1) := by decide +kernel
theorem dX10_pieces_121 : decode cX10_pieces 121 = .ok (.goto 22, 3) := by decide +kernel
theorem dX10_pieces_124 : decode cX10_pieces 124 = .ok (.iload_n 1, 1) := by decide +kernel
theorem dX10_pieces_125 : decode cX10_pieces 125 = .ok (.aload_n 0, 1) := by decide +kernel
theorem dX10_pieces_126 : decode cX10_pieces 126 = .ok (.getfield 71, 3) := by decide +kernel
theorem dX10_pieces_129 : decode cX10_pieces 129 = .ok (.if_icmp .ge 12, 3) := by decide +kernel
theorem dX10_pieces_132 : decode cX10_pieces 132 = .ok (.aload_n 0, 1) := by decide +kernel
theorem dX10_pieces_133 : decode cX10_pieces 133 = .ok (.getfield 52, 3) := by decide +kernel
theorem dX10_pieces_136 : decode cX10_pieces 136 = .ok (.iload_n 1, 1) := by decide +kernel
theorem dX10_pieces_137 : decode cX10_pieces 137 = .ok (.iaload, 1) := by decide +kernel
theorem dX10_pieces_138 : decode cX10_pieces 138 = .ok (.goto 5, 3) := by decide +kernel
theorem dX10_pieces_141 : decode cX10_pieces 141 = .ok (.bipush (-5), 2) := by decide +kernel
theorem dX10_pieces_143 : decode cX10_pieces 143 = .ok (.ireturn, 1) := by decide +kernel
theorem dX10_isSwap_0 : decode cX10_isSwap 0 = .ok (.aload_n 0, 1) := by decide +kernel
theorem dX10_isSwap_1 : decode cX10_isSwap 1 = .ok (.getfield 22, 3) := by decide +kernel
theorem dX10_isSwap_4 : decode cX10_isSwap 4 = .ok (.iload_n 1, 1) := by decide +kernel
theorem dX10_isSwap_5 : decode cX10_isSwap 5 = .ok (.iaload, 1) := by decide +kernel
theorem dX10_isSwap_6 : decode cX10_isSwap 6 = .ok (.istore_n 3, 1) := by decide +kernel
theorem dX10_isSwap_7 : decode cX10_isSwap 7 = .ok (.aload_n 0, 1) := by decide +kernel
theorem dX10_isSwap_8 : decode cX10_isSwap 8 = .ok (.getfield 22, 3) := by decide +kernel
theorem dX10_isSwap_11 : decode cX10_isSwap 11 = .ok (.iload_n 2, 1) := by decide +kernel
theorem dX10_isSwap_12 : decode cX10_isSwap 12 = .ok (.iaload, 1) := by decide +kernel
theorem dX10_isSwap_13 : decode cX10_isSwap 13 = .ok (.istore 4, 2) := by decide +kernel
theorem dX10_isSwap_15 : decode cX10_isSwap 15 = .ok (.iload_n 3, 1) := by decide +kernel
theorem dX10_isSwap_16 : decode cX10_isSwap 16 = .ok (.iconst (-1), 1) := by decide +kernel
theorem dX10_isSwap_17 : decode cX10_isSwap 17 = .ok (.if_icmp .eq 15, 3) := by decide +kernel
theorem dX10_isSwap_20 : decode cX10_isSwap 20 = .ok (.iload 4, 2) := by decide +kernel
theorem dX10_isSwap_22 : decode cX10_isSwap 22 = .ok (.iconst (-1), 1) := by decide +kernel
theorem dX10_isSwap_23 : decode cX10_isSwap 23 = .ok (.if_icmp .eq 9, 3) := by decide +kernel
theorem dX10_isSwap_26 : decode cX10_isSwap 26 = .ok (.iload_n 3, 1) := by decide +kernel
theorem dX10_isSwap_27 : decode cX10_isSwap 27 = .ok (.iload 4, 2) := by decide +kernel
theorem dX10_isSwap_29 : decode cX10_isSwap 29 = .ok (.if_icmp .ne 5, 3) := by decide +kernel
theorem dX10_isSwap_32 : decode cX10_isSwap 32 = .ok (.iconst 0, 1) := by decide +kernel
theorem dX10_isSwap_33 : decode cX10_isSwap 33 = .ok (.ireturn, 1) := by decide +kernel
theorem dX10_isSwap_34 : decode cX10_isSwap 34 = .ok (.aload_n 0, 1) := by decide +kernel
theorem dX10_isSwap_35 : decode cX10_isSwap 35 = .ok (.iload_n 3, 1) := by decide +kernel
theorem dX10_isSwap_36 : decode cX10_isSwap 36 = .ok (.invokevirtual 161, 3) := by decide +kernel
theorem dX10_isSwap_39 : decode cX10_isSwap 39 = .ok (.istore 5, 2) := by decide +kernel
theorem dX10_isSwap_41 : decode cX10_isSwap 41 = .ok (.aload_n 0, 1) := by decide +kernel
theorem dX10_isSwap_42 : decode cX10_isSwap 42 = .ok (.iload 4, 2) := by decide +kernel
theorem dX10_isSwap_44 : decode cX10_isSwap 44 = .ok (.invokevirtual 161, 3) := by decide +kernel
theorem dX10_isSwap_47 : decode cX10_isSwap 47 = .ok (.istore 6, 2) := by decide +kernel
theorem dX10_isSwap_49 : decode cX10_isSwap 49 = .ok (.iconst 1, 1) := by decide +kernel
theorem dX10_isSwap_50 : decode cX10_isSwap 50 = .ok (.iload_n 1, 1) := by decide +kernel
theorem dX10_isSwap_51 : decode cX10_isSwap 51 = .ok (.ishl, 1) := by decide +kernel
theorem dX10_isSwap_52 : decode cX10_isSwap 52 = .ok (.iconst 1, 1) := by decide +kernel
theorem dX10_isSwap_53 : decode cX10_isSwap 53 = .ok (.iload_n 2, 1) := by decide +kernel
theorem dX10_isSwap_54 : decode cX10_isSwap 54 = .ok (.ishl, 1) := by decide +kernel
theorem dX10_isSwap_55 : decode cX10_isSwap 55 = .ok (.ior, 1) := by decide +kernel
theorem dX10_isSwap_56 : decode cX10_isSwap 56 = .ok (.istore 7, 2) := by decide +kernel
theorem dX10_isSwap_58 : decode cX10_isSwap 58 = .ok (.aload_n 0, 1) := by decide +kernel
theorem dX10_isSwap_59 : decode cX10_isSwap 59 = .ok (.iload_n 3, 1) := by decide +kernel
theorem dX10_isSwap_60 : decode cX10_isSwap 60 = .ok (.iload 5, 2) := by decide +kernel
theorem dX10_isSwap_62 : decode cX10_isSwap 62 = .ok (.iload 7, 2) := by decide +kernel
theorem dX10_isSwap_64 : decode cX10_isSwap 64 = .ok (.ixor, 1) := by decide +kernel
theorem dX10_isSwap_65 : decode cX10_isSwap 65 = .ok (.invokevirtual 164, 3) := by decide +kernel
theorem dX10_isSwap_68 : decode cX10_isSwap 68 = .ok (.aload_n 0, 1) := by decide +kernel
theorem dX10_isSwap_69 : decode cX10_isSwap 69 = .ok (.iload_n 3, 1) := by decide +kernel
theorem dX10_isSwap_70 : decode cX10_isSwap 70 = .ok (.iload 5, 2) := by decide +kernel
theorem dX10_isSwap_72 : decode cX10_isSwap 72 = .ok (.invokevirtual 164, 3) := by decide +kernel
theorem dX10_isSwap_75 : decode cX10_isSwap 75 = .ok (.if_icmp .le 29, 3) := by decide +kernel
theorem dX10_isSwap_78 : decode cX10_isSwap 78 = .ok (.aload_n 0, 1) := by decide +kernel
theorem dX10_isSwap_79 : decode cX10_isSwap 79 = .ok (.iload 4, 2) := by decide +kernel
theorem dX10_isSwap_81 : decode cX10_isSwap 81 = .ok (.iload 6, 2) := by decide +kernel
theorem dX10_isSwap_83 : decode cX10_isSwap 83 = .ok (.iload 7, 2) := by decide +kernel
theorem dX10_isSwap_85 : decode cX10_isSwap 85 = .ok (.ixor, 1) := by decide +kernel
theorem dX10_isSwap_86 : decode cX10_isSwap 86 = .ok (.invokevirtual 164, 3) := by decide +kernel
theorem dX10_isSwap_89 : decode cX10_isSwap 89 = .ok (.aload_n 0, 1) := by decide +kernel
theorem dX10_isSwap_90 : decode cX10_isSwap 90 = .ok (.iload 4, 2) := by decide +kernel
theorem dX10_isSwap_92 : decode cX10_isSwap 92 = .ok (.iload 6, 2) := by decide +kernel
theorem dX10_isSwap_94 : decode cX10_isSwap 94 = .ok (.invokevirtual 164, 3) := by decide +kernel
theorem dX10_isSwap_97 : decode cX10_isSwap 97 = .ok (.if_icmp .le 7, 3) := by decide +kernel
theorem dX10_isSwap_100 : decode cX10_isSwap 100 = .ok (.iconst 1, 1) := by decide +kernel
theorem dX10_isSwap_101 : decode cX10_isSwap 101 = .ok (.goto 4, 3) := by decide +kernel
theorem dX10_isSwap_104 : decode cX10_isSwap 104 = .ok (.iconst 0, 1) := by decide +kernel
theorem dX10_isSwap_105 : decode cX10_isSwap 105 = .ok (.ireturn, 1) := by decide +kernel
theorem dX10_swaps_0 : decode cX10_swaps 0 = .ok (.iload_n 1, 1) := by decide +kernel
theorem dX10_swaps_1 : decode cX10_swaps 1 = .ok (.iconst (-1), 1) := by decide +kernel
theorem dX10_swaps_2 : decode cX10_swaps 2 = .ok (.if_icmp .ge 8, 3) := by decide +kernel
theorem dX10_swaps_5 : decode cX10_swaps 5 = .ok (.aload_n 0, 1) := by decide +kernel
theorem dX10_swaps_6 : decode cX10_swaps 6 = .ok (.invokevirtual 174, 3) := by decide +kernel
theorem dX10_swaps_9 : decode cX10_swaps 9 = .ok (.ireturn, 1) := by decide +kernel
theorem dX10_swaps_10 : decode cX10_swaps 10 = .ok (.iconst 0, 1) := by decide +kernel
theorem dX10_swaps_11 : decode cX10_swaps 11 = .ok (.istore_n 2, 1) := by decide +kernel
theorem dX10_swaps_12 : decode cX10_swaps 12 = .ok (.bipush (-5), 2) := by decide +kernel
theorem dX10_swaps_14 : decode cX10_swaps 14 = .ok (.istore_n 3, 1) := by decide +kernel
theorem dX10_swaps_15 : decode cX10_swaps 15 = .ok (.iconst 0, 1) := by decide +kernel
theorem dX10_swaps_16 : decode cX10_swaps 16 = .ok (.istore 4, 2) := by decide +kernel
theorem dX10_swaps_18 : decode cX10_swaps 18 = .ok (.iload 4, 2) := by decide +kernel
theorem dX10_swaps_20 : decode cX10_swaps 20 = .ok (.bipush 12, 2) := by decide +kernel
theorem dX10_swaps_22 : decode cX10_swaps 22 = .ok (.if_icmp .ge 60, 3) := by decide +kernel
theorem dX10_swaps_25 : decode cX10_swaps 25 = .ok (.iload 4, 2) := by decide +kernel
theorem dX10_swaps_27 : decode cX10_swaps 27 = .ok (.iconst 1, 1) := by decide +kernel
theorem dX10_swaps_28 : decode cX10_swaps 28 = .ok (.iadd, 1) := by decide +kernel
theorem dX10_swaps_29 : decode cX10_swaps 29 = .ok (.istore 5, 2) := by decide +kernel
theorem dX10_swaps_31 : decode cX10_swaps 31 = .ok (.iload 5, 2) := by decide +kernel
theorem dX10_swaps_33 : decode cX10_swaps 33 = .ok (.bipush 12, 2) := by decide +kernel
theorem dX10_swaps_35 : decode cX10_swaps 35 = .ok (.if_icmp .ge 41, 3) := by decide +kernel
theorem dX10_swaps_38 : decode cX10_swaps 38 = .ok (.aload_n 0, 1) := by decide +kernel
theorem dX10_swaps_39 : decode cX10_swaps 39 = .ok (.iload 4, 2) := by decide +kernel
theorem dX10_swaps_41 : decode cX10_swaps 41 = .ok (.iload 5, 2) := by decide +kernel
theorem dX10_swaps_43 : decode cX10_swaps 43 = .ok (.invokevirtual 208, 3) := by decide +kernel
theorem dX10_swaps_46 : decode cX10_swaps 46 = .ok (.ifCond .eq 24, 3) := by decide +kernel
theorem dX10_swaps_49 : decode cX10_swaps 49 = .ok (.iload_n 2, 1) := by decide +kernel
theorem dX10_swaps_50 : decode cX10_swaps 50 = .ok (.iload_n 1, 1) := by decide +kernel
theorem dX10_swaps_51 : decode cX10_swaps 51 = .ok (.if_icmp .ne 14, 3) := by decide +kernel
theorem dX10_swaps_54 : decode cX10_swaps 54 = .ok (.bipush 100, 2) := by decide +kernel
theorem dX10_swaps_56 : decode cX10_swaps 56 = .ok (.iload 4, 2) := by decide +kernel
theorem dX10_swaps_58 : decode cX10_swaps 58 = .ok (.imul, 1) := by decide +kernel
theorem dX10_swaps_59 : decode cX10_swaps 59 = .ok (.iload 5, 2) := by decide +kernel
theorem dX10_swaps_61 : decode cX10_swaps 61 = .ok (.iadd, 1) := by decide +kernel
theorem dX10_swaps_62 : decode cX10_swaps 62 = .ok (.goto 4, 3) := by decide +kernel
theorem dX10_swaps_65 : decode cX10_swaps 65 = .ok (.iload_n 3, 1) := by decide +kernel
theorem dX10_swaps_66 : decode cX10_swaps 66 = .ok (.istore_n 3, 1) := by decide +kernel
theorem dX10_swaps_67 : decode cX10_swaps 67 = .ok (.iinc 2 1, 3) := by decide +kernel
theorem dX10_swaps_70 : decode cX10_swaps 70 = .ok (.iinc 5 1, 3) := by decide +kernel
theorem dX10_swaps_73 : decode cX10_swaps 73 = .ok (.goto (-42), 3) := by decide +kernel
theorem dX10_swaps_76 : decode cX10_swaps 76 = .ok (.iinc 4 1, 3) := by decide +kernel
theorem dX10_swaps_79 : decode cX10_swaps 79 = .ok (.goto (-61), 3) := by decide +kernel
theorem dX10_swaps_82 : decode cX10_swaps 82 = .ok (.iload_n 1, 1) := by decide +kernel
theorem dX10_swaps_83 : decode cX10_swaps 83 = .ok (.iconst (-1), 1) := by decide +kernel
theorem dX10_swaps_84 : decode cX10_swaps 84 = .ok (.if_icmp .ne 7, 3) := by decide +kernel
theorem dX10_swaps_87 : decode cX10_swaps 87 = .ok (.iload_n 2, 1) := by decide +kernel
theorem dX10_swaps_88 : decode cX10_swaps 88 = .ok (.goto 4, 3) := by decide +kernel
theorem dX10_swaps_91 : decode cX10_swaps 91 = .ok (.iload_n 3, 1) := by decide +kernel
theorem dX10_swaps_92 : decode cX10_swaps 92 = .ok (.ireturn, 1) := by decide +kernel
theorem dX10_puts_0 : decode cX10_puts 0 = .ok (.iconst 0, 1) := by decide +kernel
theorem dX10_puts_1 : decode cX10_puts 1 = .ok (.istore_n 1, 1) := by decide +kernel
theorem dX10_puts_2 : decode cX10_puts 2 = .ok (.iload_n 1, 1) := by decide +kernel
theorem dX10_puts_3 : decode cX10_puts 3 = .ok (.bipush 12, 2) := by decide +kernel
theorem dX10_puts_5 : decode cX10_puts 5 = .ok (.if_icmp .ge 21, 3) := by decide +kernel
theorem dX10_puts_8 : decode cX10_puts 8 = .ok (.aload_n 0, 1) := by decide +kernel
theorem dX10_puts_9 : decode cX10_puts 9 = .ok (.getfield 55, 3) := by decide +kernel
theorem dX10_puts_12 : decode cX10_puts 12 = .ok (.iload_n 1, 1) := by decide +kernel
theorem dX10_puts_13 : decode cX10_puts 13 = .ok (.aload_n 0, 1) := by decide +kernel
theorem dX10_puts_14 : decode cX10_puts 14 = .ok (.getfield 22, 3) := by decide +kernel
theorem dX10_puts_17 : decode cX10_puts 17 = .ok (.iload_n 1, 1) := by decide +kernel
theorem dX10_puts_18 : decode cX10_puts 18 = .ok (.iaload, 1) := by decide +kernel
theorem dX10_puts_19 : decode cX10_puts 19 = .ok (.iastore, 1) := by decide +kernel
theorem dX10_puts_20 : decode cX10_puts 20 = .ok (.iinc 1 1, 3) := by decide +kernel
theorem dX10_puts_23 : decode cX10_puts 23 = .ok (.goto (-21), 3) := by decide +kernel
theorem dX10_puts_26 : decode cX10_puts 26 = .ok (.return_, 1) := by decide +kernel
theorem dX10_back_0 : decode cX10_back 0 = .ok (.iconst 0, 1) := by decide +kernel
theorem dX10_back_1 : decode cX10_back 1 = .ok (.istore_n 1, 1) := by decide +kernel
theorem dX10_back_2 : decode cX10_back 2 = .ok (.iload_n 1, 1) := by decide +kernel
theorem dX10_back_3 : decode cX10_back 3 = .ok (.bipush 12, 2) := by decide +kernel
theorem dX10_back_5 : decode cX10_back 5 = .ok (.if_icmp .ge 21, 3) := by decide +kernel
theorem dX10_back_8 : decode cX10_back 8 = .ok (.aload_n 0, 1) := by decide +kernel
theorem dX10_back_9 : decode cX10_back 9 = .ok (.getfield 22, 3) := by decide +kernel
theorem dX10_back_12 : decode cX10_back 12 = .ok (.iload_n 1, 1) := by decide +kernel
theorem dX10_back_13 : decode cX10_back 13 = .ok (.aload_n 0, 1) := by decide +kernel
theorem dX10_back_14 : decode cX10_back 14 = .ok (.getfield 55, 3) := by decide +kernel
theorem dX10_back_17 : decode cX10_back 17 = .ok (.iload_n 1, 1) := by decide +kernel
theorem dX10_back_18 : decode cX10_back 18 = .ok (.iaload, 1) := by decide +kernel
theorem dX10_back_19 : decode cX10_back 19 = .ok (.iastore, 1) := by decide +kernel
theorem dX10_back_20 : decode cX10_back 20 = .ok (.iinc 1 1, 3) := by decide +kernel
theorem dX10_back_23 : decode cX10_back 23 = .ok (.goto (-21), 3) := by decide +kernel
theorem dX10_back_26 : decode cX10_back 26 = .ok (.return_, 1) := by decide +kernel
theorem dX10_firstSwap_0 : decode cX10_firstSwap 0 = .ok (.iconst 0, 1) := by decide +kernel
theorem dX10_firstSwap_1 : decode cX10_firstSwap 1 = .ok (.istore_n 1, 1) := by decide +kernel
theorem dX10_firstSwap_2 : decode cX10_firstSwap 2 = .ok (.iload_n 1, 1) := by decide +kernel
theorem dX10_firstSwap_3 : decode cX10_firstSwap 3 = .ok (.bipush 12, 2) := by decide +kernel
theorem dX10_firstSwap_5 : decode cX10_firstSwap 5 = .ok (.if_icmp .ge 41, 3) := by decide +kernel
theorem dX10_firstSwap_8 : decode cX10_firstSwap 8 = .ok (.iload_n 1, 1) := by decide +kernel
theorem dX10_firstSwap_9 : decode cX10_firstSwap 9 = .ok (.iconst 1, 1) := by decide +kernel
theorem dX10_firstSwap_10 : decode cX10_firstSwap 10 = .ok (.iadd, 1) := by decide +kernel
theorem dX10_firstSwap_11 : decode cX10_firstSwap 11 = .ok (.istore_n 2, 1) := by decide +kernel
theorem dX10_firstSwap_12 : decode cX10_firstSwap 12 = .ok (.iload_n 2, 1) := by decide +kernel
theorem dX10_firstSwap_13 : decode cX10_firstSwap 13 = .ok (.bipush 12, 2) := by decide +kernel
theorem dX10_firstSwap_15 : decode cX10_firstSwap 15 = .ok (.if_icmp .ge 25, 3) := by decide +kernel
theorem dX10_firstSwap_18 : decode cX10_firstSwap 18 = .ok (.aload_n 0, 1) := by decide +kernel
theorem dX10_firstSwap_19 : decode cX10_firstSwap 19 = .ok (.iload_n 1, 1) := by decide +kernel
theorem dX10_firstSwap_20 : decode cX10_firstSwap 20 = .ok (.iload_n 2, 1) := by decide +kernel
theorem dX10_firstSwap_21 : decode cX10_firstSwap 21 = .ok (.invokevirtual 208, 3) := by decide +kernel
theorem dX10_firstSwap_24 : decode cX10_firstSwap 24 = .ok (.ifCond .eq 10, 3) := by decide +kernel
theorem dX10_firstSwap_27 : decode cX10_firstSwap 27 = .ok (.bipush 100, 2) := by decide +kernel
theorem dX10_firstSwap_29 : decode cX10_firstSwap 29 = .ok (.iload_n 1, 1) := by decide +kernel
theorem dX10_firstSwap_30 : decode cX10_firstSwap 30 = .ok (.imul, 1) := by decide +kernel
theorem dX10_firstSwap_31 : decode cX10_firstSwap 31 = .ok (.iload_n 2, 1) := by decide +kernel
theorem dX10_firstSwap_32 : decode cX10_firstSwap 32 = .ok (.iadd, 1) := by decide +kernel
theorem dX10_firstSwap_33 : decode cX10_firstSwap 33 = .ok (.ireturn, 1) := by decide +kernel
theorem dX10_firstSwap_34 : decode cX10_firstSwap 34 = .ok (.iinc 2 1, 3) := by decide +kernel
theorem dX10_firstSwap_37 : decode cX10_firstSwap 37 = .ok (.goto (-25), 3) := by decide +kernel
theorem dX10_firstSwap_40 : decode cX10_firstSwap 40 = .ok (.iinc 1 1, 3) := by decide +kernel
theorem dX10_firstSwap_43 : decode cX10_firstSwap 43 = .ok (.goto (-41), 3) := by decide +kernel
theorem dX10_firstSwap_46 : decode cX10_firstSwap 46 = .ok (.iconst (-1), 1) := by decide +kernel
theorem dX10_firstSwap_47 : decode cX10_firstSwap 47 = .ok (.ireturn, 1) := by decide +kernel
theorem dX10_steps_0 : decode cX10_steps 0 = .ok (.aload_n 0, 1) := by decide +kernel
theorem dX10_steps_1 : decode cX10_steps 1 = .ok (.invokevirtual 211, 3) := by decide +kernel
theorem dX10_steps_4 : decode cX10_steps 4 = .ok (.iconst 0, 1) := by decide +kernel
theorem dX10_steps_5 : decode cX10_steps 5 = .ok (.istore_n 1, 1) := by decide +kernel
theorem dX10_steps_6 : decode cX10_steps 6 = .ok (.aload_n 0, 1) := by decide +kernel
theorem dX10_steps_7 : decode cX10_steps 7 = .ok (.invokevirtual 214, 3) := by decide +kernel
theorem dX10_steps_10 : decode cX10_steps 10 = .ok (.istore_n 2, 1) := by decide +kernel
theorem dX10_steps_11 : decode cX10_steps 11 = .ok (.iload_n 1, 1) := by decide +kernel
theorem dX10_steps_12 : decode cX10_steps 12 = .ok (.bipush 99, 2) := by decide +kernel
theorem dX10_steps_14 : decode cX10_steps 14 = .ok (.if_icmp .ge 31, 3) := by decide +kernel
theorem dX10_steps_17 : decode cX10_steps 17 = .ok (.iload_n 2, 1) := by decide +kernel
theorem dX10_steps_18 : decode cX10_steps 18 = .ok (.iconst (-1), 1) := by decide +kernel
theorem dX10_steps_19 : decode cX10_steps 19 = .ok (.if_icmp .eq 26, 3) := by decide +kernel
theorem dX10_steps_22 : decode cX10_steps 22 = .ok (.aload_n 0, 1) := by decide +kernel
theorem dX10_steps_23 : decode cX10_steps 23 = .ok (.iload_n 2, 1) := by decide +kernel
theorem dX10_steps_24 : decode cX10_steps 24 = .ok (.bipush 100, 2) := by decide +kernel
theorem dX10_steps_26 : decode cX10_steps 26 = .ok (.idiv, 1) := by decide +kernel
theorem dX10_steps_27 : decode cX10_steps 27 = .ok (.iload_n 2, 1) := by decide +kernel
theorem dX10_steps_28 : decode cX10_steps 28 = .ok (.bipush 100, 2) := by decide +kernel
theorem dX10_steps_30 : decode cX10_steps 30 = .ok (.irem, 1) := by decide +kernel
theorem dX10_steps_31 : decode cX10_steps 31 = .ok (.invokevirtual 183, 3) := by decide +kernel
theorem dX10_steps_34 : decode cX10_steps 34 = .ok (.iinc 1 1, 3) := by decide +kernel
theorem dX10_steps_37 : decode cX10_steps 37 = .ok (.aload_n 0, 1) := by decide +kernel
theorem dX10_steps_38 : decode cX10_steps 38 = .ok (.invokevirtual 214, 3) := by decide +kernel
theorem dX10_steps_41 : decode cX10_steps 41 = .ok (.istore_n 2, 1) := by decide +kernel
theorem dX10_steps_42 : decode cX10_steps 42 = .ok (.goto (-31), 3) := by decide +kernel
theorem dX10_steps_45 : decode cX10_steps 45 = .ok (.aload_n 0, 1) := by decide +kernel
theorem dX10_steps_46 : decode cX10_steps 46 = .ok (.invokevirtual 217, 3) := by decide +kernel
theorem dX10_steps_49 : decode cX10_steps 49 = .ok (.iload_n 1, 1) := by decide +kernel
theorem dX10_steps_50 : decode cX10_steps 50 = .ok (.ireturn, 1) := by decide +kernel
theorem dX10_sale_0 : decode cX10_sale 0 = .ok (.iload_n 1, 1) := by decide +kernel
theorem dX10_sale_1 : decode cX10_sale 1 = .ok (.invokestatic 168, 3) := by decide +kernel
theorem dX10_sale_4 : decode cX10_sale 4 = .ok (.ifCond .eq 12, 3) := by decide +kernel
theorem dX10_sale_7 : decode cX10_sale 7 = .ok (.iload_n 2, 1) := by decide +kernel
theorem dX10_sale_8 : decode cX10_sale 8 = .ok (.iconst 0, 1) := by decide +kernel
theorem dX10_sale_9 : decode cX10_sale 9 = .ok (.iconst 1, 1) := by decide +kernel
theorem dX10_sale_10 : decode cX10_sale 10 = .ok (.invokestatic 81, 3) := by decide +kernel
theorem dX10_sale_13 : decode cX10_sale 13 = .ok (.ifCond .ne 8, 3) := by decide +kernel
theorem dX10_sale_16 : decode cX10_sale 16 = .ok (.aload_n 0, 1) := by decide +kernel
theorem dX10_sale_17 : decode cX10_sale 17 = .ok (.invokevirtual 85, 3) := by decide +kernel
theorem dX10_sale_20 : decode cX10_sale 20 = .ok (.ireturn, 1) := by decide +kernel
theorem dX10_sale_21 : decode cX10_sale 21 = .ok (.aload_n 0, 1) := by decide +kernel
theorem dX10_sale_22 : decode cX10_sale 22 = .ok (.getfield 22, 3) := by decide +kernel
theorem dX10_sale_25 : decode cX10_sale 25 = .ok (.iload_n 1, 1) := by decide +kernel
theorem dX10_sale_26 : decode cX10_sale 26 = .ok (.iaload, 1) := by decide +kernel
theorem dX10_sale_27 : decode cX10_sale 27 = .ok (.istore_n 3, 1) := by decide +kernel
theorem dX10_sale_28 : decode cX10_sale 28 = .ok (.iconst 0, 1) := by decide +kernel
theorem dX10_sale_29 : decode cX10_sale 29 = .ok (.istore 4, 2) := by decide +kernel
theorem dX10_sale_31 : decode cX10_sale 31 = .ok (.iload_n 3, 1) := by decide +kernel
theorem dX10_sale_32 : decode cX10_sale 32 = .ok (.iconst (-1), 1) := by decide +kernel
theorem dX10_sale_33 : decode cX10_sale 33 = .ok (.if_icmp .eq 27, 3) := by decide +kernel
theorem dX10_sale_36 : decode cX10_sale 36 = .ok (.aload_n 0, 1) := by decide +kernel
theorem dX10_sale_37 : decode cX10_sale 37 = .ok (.iload_n 3, 1) := by decide +kernel
theorem dX10_sale_38 : decode cX10_sale 38 = .ok (.invokevirtual 193, 3) := by decide +kernel
theorem dX10_sale_41 : decode cX10_sale 41 = .ok (.aload_n 0, 1) := by decide +kernel
theorem dX10_sale_42 : decode cX10_sale 42 = .ok (.iload_n 3, 1) := by decide +kernel
theorem dX10_sale_43 : decode cX10_sale 43 = .ok (.aload_n 0, 1) := by decide +kernel
theorem dX10_sale_44 : decode cX10_sale 44 = .ok (.iload_n 3, 1) := by decide +kernel
theorem dX10_sale_45 : decode cX10_sale 45 = .ok (.invokevirtual 161, 3) := by decide +kernel
theorem dX10_sale_48 : decode cX10_sale 48 = .ok (.iconst 1, 1) := by decide +kernel
theorem dX10_sale_49 : decode cX10_sale 49 = .ok (.iload_n 1, 1) := by decide +kernel
theorem dX10_sale_50 : decode cX10_sale 50 = .ok (.ishl, 1) := by decide +kernel
theorem dX10_sale_51 : decode cX10_sale 51 = .ok (.iconst (-1), 1) := by decide +kernel
theorem dX10_sale_52 : decode cX10_sale 52 = .ok (.ixor, 1) := by decide +kernel
theorem dX10_sale_53 : decode cX10_sale 53 = .ok (.iand, 1) := by decide +kernel
theorem dX10_sale_54 : decode cX10_sale 54 = .ok (.invokevirtual 164, 3) := by decide +kernel
theorem dX10_sale_57 : decode cX10_sale 57 = .ok (.isub, 1) := by decide +kernel
theorem dX10_sale_58 : decode cX10_sale 58 = .ok (.istore 4, 2) := by decide +kernel
theorem dX10_sale_60 : decode cX10_sale 60 = .ok (.iconst (-1), 1) := by decide +kernel
theorem dX10_sale_61 : decode cX10_sale 61 = .ok (.istore 5, 2) := by decide +kernel
theorem dX10_sale_63 : decode cX10_sale 63 = .ok (.iconst 0, 1) := by decide +kernel
theorem dX10_sale_64 : decode cX10_sale 64 = .ok (.istore 6, 2) := by decide +kernel
theorem dX10_sale_66 : decode cX10_sale 66 = .ok (.iconst 0, 1) := by decide +kernel
theorem dX10_sale_67 : decode cX10_sale 67 = .ok (.istore 7, 2) := by decide +kernel
theorem dX10_sale_69 : decode cX10_sale 69 = .ok (.iload 7, 2) := by decide +kernel
theorem dX10_sale_71 : decode cX10_sale 71 = .ok (.aload_n 0, 1) := by decide +kernel
theorem dX10_sale_72 : decode cX10_sale 72 = .ok (.getfield 71, 3) := by decide +kernel
theorem dX10_sale_75 : decode cX10_sale 75 = .ok (.if_icmp .ge 87, 3) := by decide +kernel
theorem dX10_sale_78 : decode cX10_sale 78 = .ok (.iload 7, 2) := by decide +kernel
theorem dX10_sale_80 : decode cX10_sale 80 = .ok (.iload_n 3, 1) := by decide +kernel
theorem dX10_sale_81 : decode cX10_sale 81 = .ok (.if_icmp .eq 75, 3) := by decide +kernel
theorem dX10_sale_84 : decode cX10_sale 84 = .ok (.aload_n 0, 1) := by decide +kernel
theorem dX10_sale_85 : decode cX10_sale 85 = .ok (.getfield 19, 3) := by decide +kernel
theorem dX10_sale_88 : decode cX10_sale 88 = .ok (.iload 7, 2) := by decide +kernel
theorem dX10_sale_90 : decode cX10_sale 90 = .ok (.iaload, 1) := by decide +kernel
theorem dX10_sale_91 : decode cX10_sale 91 = .ok (.iload 4, 2) := by decide +kernel
theorem dX10_sale_93 : decode cX10_sale 93 = .ok (.if_icmp .lt 63, 3) := by decide +kernel
theorem dX10_sale_96 : decode cX10_sale 96 = .ok (.aload_n 0, 1) := by decide +kernel
theorem dX10_sale_97 : decode cX10_sale 97 = .ok (.iload 7, 2) := by decide +kernel
theorem dX10_sale_99 : decode cX10_sale 99 = .ok (.aload_n 0, 1) := by decide +kernel
theorem dX10_sale_100 : decode cX10_sale 100 = .ok (.iload 7, 2) := by decide +kernel
theorem dX10_sale_102 : decode cX10_sale 102 = .ok (.invokevirtual 161, 3) := by decide +kernel
theorem dX10_sale_105 : decode cX10_sale 105 = .ok (.iconst 1, 1) := by decide +kernel
theorem dX10_sale_106 : decode cX10_sale 106 = .ok (.iload_n 1, 1) := by decide +kernel
theorem dX10_sale_107 : decode cX10_sale 107 = .ok (.ishl, 1) := by decide +kernel
theorem dX10_sale_108 : decode cX10_sale 108 = .ok (.ior, 1) := by decide +kernel
theorem dX10_sale_109 : decode cX10_sale 109 = .ok (.invokevirtual 164, 3) := by decide +kernel
theorem dX10_sale_112 : decode cX10_sale 112 = .ok (.aload_n 0, 1) := by decide +kernel
theorem dX10_sale_113 : decode cX10_sale 113 = .ok (.iload 7, 2) := by decide +kernel
theorem dX10_sale_115 : decode cX10_sale 115 = .ok (.invokevirtual 193, 3) := by decide +kernel
theorem dX10_sale_118 : decode cX10_sale 118 = .ok (.isub, 1) := by decide +kernel
theorem dX10_sale_119 : decode cX10_sale 119 = .ok (.iload 4, 2) := by decide +kernel
theorem dX10_sale_121 : decode cX10_sale 121 = .ok (.isub, 1) := by decide +kernel
theorem dX10_sale_122 : decode cX10_sale 122 = .ok (.istore 8, 2) := by decide +kernel
theorem dX10_sale_124 : decode cX10_sale 124 = .ok (.iload 8, 2) := by decide +kernel
theorem dX10_sale_126 : decode cX10_sale 126 = .ok (.iload 6, 2) := by decide +kernel
theorem dX10_sale_128 : decode cX10_sale 128 = .ok (.if_icmp .le 8, 3) := by decide +kernel
theorem dX10_sale_131 : decode cX10_sale 131 = .ok (.iload 7, 2) := by decide +kernel
theorem dX10_sale_133 : decode cX10_sale 133 = .ok (.goto 5, 3) := by decide +kernel
theorem dX10_sale_136 : decode cX10_sale 136 = .ok (.iload 5, 2) := by decide +kernel
theorem dX10_sale_138 : decode cX10_sale 138 = .ok (.istore 5, 2) := by decide +kernel
theorem dX10_sale_140 : decode cX10_sale 140 = .ok (.iload 8, 2) := by decide +kernel
theorem dX10_sale_142 : decode cX10_sale 142 = .ok (.iload 6, 2) := by decide +kernel
theorem dX10_sale_144 : decode cX10_sale 144 = .ok (.if_icmp .le 8, 3) := by decide +kernel
theorem dX10_sale_147 : decode cX10_sale 147 = .ok (.iload 8, 2) := by decide +kernel
theorem dX10_sale_149 : decode cX10_sale 149 = .ok (.goto 5, 3) := by decide +kernel
theorem dX10_sale_152 : decode cX10_sale 152 = .ok (.iload 6, 2) := by decide +kernel
theorem dX10_sale_154 : decode cX10_sale 154 = .ok (.istore 6, 2) := by decide +kernel
theorem dX10_sale_156 : decode cX10_sale 156 = .ok (.iinc 7 1, 3) := by decide +kernel
theorem dX10_sale_159 : decode cX10_sale 159 = .ok (.goto (-90), 3) := by decide +kernel
theorem dX10_sale_162 : decode cX10_sale 162 = .ok (.iload 5, 2) := by decide +kernel
theorem dX10_sale_164 : decode cX10_sale 164 = .ok (.iconst (-1), 1) := by decide +kernel
theorem dX10_sale_165 : decode cX10_sale 165 = .ok (.if_icmp .eq 7, 3) := by decide +kernel
theorem dX10_sale_168 : decode cX10_sale 168 = .ok (.iload_n 2, 1) := by decide +kernel
theorem dX10_sale_169 : decode cX10_sale 169 = .ok (.ifCond .ne 8, 3) := by decide +kernel
theorem dX10_sale_172 : decode cX10_sale 172 = .ok (.iload 5, 2) := by decide +kernel
theorem dX10_sale_174 : decode cX10_sale 174 = .ok (.goto 5, 3) := by decide +kernel
theorem dX10_sale_177 : decode cX10_sale 177 = .ok (.iload 6, 2) := by decide +kernel
theorem dX10_sale_179 : decode cX10_sale 179 = .ok (.ireturn, 1) := by decide +kernel
theorem dX10_longest_0 : decode cX10_longest 0 = .ok (.iload_n 1, 1) := by decide +kernel
theorem dX10_longest_1 : decode cX10_longest 1 = .ok (.iconst 0, 1) := by decide +kernel
theorem dX10_longest_2 : decode cX10_longest 2 = .ok (.iconst 1, 1) := by decide +kernel
theorem dX10_longest_3 : decode cX10_longest 3 = .ok (.invokestatic 81, 3) := by decide +kernel
theorem dX10_longest_6 : decode cX10_longest 6 = .ok (.ifCond .ne 8, 3) := by decide +kernel
theorem dX10_longest_9 : decode cX10_longest 9 = .ok (.aload_n 0, 1) := by decide +kernel
theorem dX10_longest_10 : decode cX10_longest 10 = .ok (.invokevirtual 85, 3) := by decide +kernel
theorem dX10_longest_13 : decode cX10_longest 13 = .ok (.ireturn, 1) := by decide +kernel
theorem dX10_longest_14 : decode cX10_longest 14 = .ok (.iconst (-1), 1) := by decide +kernel
theorem dX10_longest_15 : decode cX10_longest 15 = .ok (.istore_n 2, 1) := by decide +kernel
theorem dX10_longest_16 : decode cX10_longest 16 = .ok (.iconst 0, 1) := by decide +kernel
theorem dX10_longest_17 : decode cX10_longest 17 = .ok (.istore_n 3, 1) := by decide +kernel
theorem dX10_longest_18 : decode cX10_longest 18 = .ok (.iconst 0, 1) := by decide +kernel
theorem dX10_longest_19 : decode cX10_longest 19 = .ok (.istore 4, 2) := by decide +kernel
theorem dX10_longest_21 : decode cX10_longest 21 = .ok (.iconst 0, 1) := by decide +kernel
theorem dX10_longest_22 : decode cX10_longest 22 = .ok (.istore 5, 2) := by decide +kernel
theorem dX10_longest_24 : decode cX10_longest 24 = .ok (.iload 5, 2) := by decide +kernel
theorem dX10_longest_26 : decode cX10_longest 26 = .ok (.bipush 12, 2) := by decide +kernel
theorem dX10_longest_28 : decode cX10_longest 28 = .ok (.if_icmp .ge 75, 3) := by decide +kernel
theorem dX10_longest_31 : decode cX10_longest 31 = .ok (.iload 5, 2) := by decide +kernel
theorem dX10_longest_33 : decode cX10_longest 33 = .ok (.ifCond .le 27, 3) := by decide +kernel
theorem dX10_longest_36 : decode cX10_longest 36 = .ok (.aload_n 0, 1) := by decide +kernel
theorem dX10_longest_37 : decode cX10_longest 37 = .ok (.getfield 22, 3) := by decide +kernel
theorem dX10_longest_40 : decode cX10_longest 40 = .ok (.iload 5, 2) := by decide +kernel
theorem dX10_longest_42 : decode cX10_longest 42 = .ok (.iaload, 1) := by decide +kernel
theorem dX10_longest_43 : decode cX10_longest 43 = .ok (.aload_n 0, 1) := by decide +kernel
theorem dX10_longest_44 : decode cX10_longest 44 = .ok (.getfield 22, 3) := by decide +kernel
theorem dX10_longest_47 : decode cX10_longest 47 = .ok (.iload 5, 2) := by decide +kernel
theorem dX10_longest_49 : decode cX10_longest 49 = .ok (.iconst 1, 1) := by decide +kernel
theorem dX10_longest_50 : decode cX10_longest 50 = .ok (.isub, 1) := by decide +kernel
theorem dX10_longest_51 : decode cX10_longest 51 = .ok (.iaload, 1) := by decide +kernel
theorem dX10_longest_52 : decode cX10_longest 52 = .ok (.if_icmp .ne 8, 3) := by decide +kernel
theorem dX10_longest_55 : decode cX10_longest 55 = .ok (.iload 4, 2) := by decide +kernel
theorem dX10_longest_57 : decode cX10_longest 57 = .ok (.goto 5, 3) := by decide +kernel
theorem dX10_longest_60 : decode cX10_longest 60 = .ok (.iload 5, 2) := by decide +kernel
theorem dX10_longest_62 : decode cX10_longest 62 = .ok (.istore 4, 2) := by decide +kernel
theorem dX10_longest_64 : decode cX10_longest 64 = .ok (.aload_n 0, 1) := by decide +kernel
theorem dX10_longest_65 : decode cX10_longest 65 = .ok (.getfield 22, 3) := by decide +kernel
theorem dX10_longest_68 : decode cX10_longest 68 = .ok (.iload 5, 2) := by decide +kernel
theorem dX10_longest_70 : decode cX10_longest 70 = .ok (.iaload, 1) := by decide +kernel
theorem dX10_longest_71 : decode cX10_longest 71 = .ok (.iconst (-1), 1) := by decide +kernel
theorem dX10_longest_72 : decode cX10_longest 72 = .ok (.if_icmp .eq 25, 3) := by decide +kernel
theorem dX10_longest_75 : decode cX10_longest 75 = .ok (.iload 5, 2) := by decide +kernel
theorem dX10_longest_77 : decode cX10_longest 77 = .ok (.iconst 1, 1) := by decide +kernel
theorem dX10_longest_78 : decode cX10_longest 78 = .ok (.iadd, 1) := by decide +kernel
theorem dX10_longest_79 : decode cX10_longest 79 = .ok (.iload 4, 2) := by decide +kernel
theorem dX10_longest_81 : decode cX10_longest 81 = .ok (.isub, 1) := by decide +kernel
theorem dX10_longest_82 : decode cX10_longest 82 = .ok (.iload_n 3, 1) := by decide +kernel
theorem dX10_longest_83 : decode cX10_longest 83 = .ok (.if_icmp .le 14, 3) := by decide +kernel
theorem dX10_longest_86 : decode cX10_longest 86 = .ok (.iload 4, 2) := by decide +kernel
theorem dX10_longest_88 : decode cX10_longest 88 = .ok (.istore_n 2, 1) := by decide +kernel
theorem dX10_longest_89 : decode cX10_longest 89 = .ok (.iload 5, 2) := by decide +kernel
theorem dX10_longest_91 : decode cX10_longest 91 = .ok (.iconst 1, 1) := by decide +kernel
theorem dX10_longest_92 : decode cX10_longest 92 = .ok (.iadd, 1) := by decide +kernel
theorem dX10_longest_93 : decode cX10_longest 93 = .ok (.iload 4, 2) := by decide +kernel
theorem dX10_longest_95 : decode cX10_longest 95 = .ok (.isub, 1) := by decide +kernel
theorem dX10_longest_96 : decode cX10_longest 96 = .ok (.istore_n 3, 1) := by decide +kernel
theorem dX10_longest_97 : decode cX10_longest 97 = .ok (.iinc 5 1, 3) := by decide +kernel
theorem dX10_longest_100 : decode cX10_longest 100 = .ok (.goto (-76), 3) := by decide +kernel
theorem dX10_longest_103 : decode cX10_longest 103 = .ok (.iload_n 1, 1) := by decide +kernel
theorem dX10_longest_104 : decode cX10_longest 104 = .ok (.ifCond .ne 7, 3) := by decide +kernel
theorem dX10_longest_107 : decode cX10_longest 107 = .ok (.iload_n 2, 1) := by decide +kernel
theorem dX10_longest_108 : decode cX10_longest 108 = .ok (.goto 4, 3) := by decide +kernel
theorem dX10_longest_111 : decode cX10_longest 111 = .ok (.iload_n 3, 1) := by decide +kernel
theorem dX10_longest_112 : decode cX10_longest 112 = .ok (.ireturn, 1) := by decide +kernel
theorem dX10_together_0 : decode cX10_together 0 = .ok (.aload_n 0, 1) := by decide +kernel
theorem dX10_together_1 : decode cX10_together 1 = .ok (.iload_n 1, 1) := by decide +kernel
theorem dX10_together_2 : decode cX10_together 2 = .ok (.invokevirtual 171, 3) := by decide +kernel
theorem dX10_together_5 : decode cX10_together 5 = .ok (.ifCond .eq 16, 3) := by decide +kernel
theorem dX10_together_8 : decode cX10_together 8 = .ok (.aload_n 0, 1) := by decide +kernel
theorem dX10_together_9 : decode cX10_together 9 = .ok (.iload_n 2, 1) := by decide +kernel
theorem dX10_together_10 : decode cX10_together 10 = .ok (.invokevirtual 171, 3) := by decide +kernel
theorem dX10_together_13 : decode cX10_together 13 = .ok (.ifCond .eq 8, 3) := by decide +kernel
theorem dX10_together_16 : decode cX10_together 16 = .ok (.iload_n 1, 1) := by decide +kernel
theorem dX10_together_17 : decode cX10_together 17 = .ok (.iload_n 2, 1) := by decide +kernel
theorem dX10_together_18 : decode cX10_together 18 = .ok (.if_icmp .ne 8, 3) := by decide +kernel
theorem dX10_together_21 : decode cX10_together 21 = .ok (.aload_n 0, 1) := by decide +kernel
theorem dX10_together_22 : decode cX10_together 22 = .ok (.invokevirtual 85, 3) := by decide +kernel
theorem dX10_together_25 : decode cX10_together 25 = .ok (.ireturn, 1) := by decide +kernel
theorem dX10_together_26 : decode cX10_together 26 = .ok (.iconst 0, 1) := by decide +kernel
theorem dX10_together_27 : decode cX10_together 27 = .ok (.istore_n 3, 1) := by decide +kernel
theorem dX10_together_28 : decode cX10_together 28 = .ok (.iconst 0, 1) := by decide +kernel
theorem dX10_together_29 : decode cX10_together 29 = .ok (.istore 4, 2) := by decide +kernel
theorem dX10_together_31 : decode cX10_together 31 = .ok (.iconst 0, 1) := by decide +kernel
theorem dX10_together_32 : decode cX10_together 32 = .ok (.istore 5, 2) := by decide +kernel
theorem dX10_together_34 : decode cX10_together 34 = .ok (.iload 5, 2) := by decide +kernel
theorem dX10_together_36 : decode cX10_together 36 = .ok (.bipush 12, 2) := by decide +kernel
theorem dX10_together_38 : decode cX10_together 38 = .ok (.if_icmp .ge 54, 3) := by decide +kernel
theorem dX10_together_41 : decode cX10_together 41 = .ok (.aload_n 0, 1) := by decide +kernel
theorem dX10_together_42 : decode cX10_together 42 = .ok (.getfield 22, 3) := by decide +kernel
theorem dX10_together_45 : decode cX10_together 45 = .ok (.iload 5, 2) := by decide +kernel
theorem dX10_together_47 : decode cX10_together 47 = .ok (.iaload, 1) := by decide +kernel
theorem dX10_together_48 : decode cX10_together 48 = .ok (.iload_n 1, 1) := by decide +kernel
theorem dX10_together_49 : decode cX10_together 49 = .ok (.if_icmp .eq 14, 3) := by decide +kernel
theorem dX10_together_52 : decode cX10_together 52 = .ok (.aload_n 0, 1) := by decide +kernel
theorem dX10_together_53 : decode cX10_together 53 = .ok (.getfield 22, 3) := by decide +kernel
theorem dX10_together_56 : decode cX10_together 56 = .ok (.iload 5, 2) := by decide +kernel
theorem dX10_together_58 : decode cX10_together 58 = .ok (.iaload, 1) := by decide +kernel
theorem dX10_together_59 : decode cX10_together 59 = .ok (.iload_n 2, 1) := by decide +kernel
theorem dX10_together_60 : decode cX10_together 60 = .ok (.if_icmp .ne 10, 3) := by decide +kernel
theorem dX10_together_63 : decode cX10_together 63 = .ok (.iload 4, 2) := by decide +kernel
theorem dX10_together_65 : decode cX10_together 65 = .ok (.iconst 1, 1) := by decide +kernel
theorem dX10_together_66 : decode cX10_together 66 = .ok (.iadd, 1) := by decide +kernel
theorem dX10_together_67 : decode cX10_together 67 = .ok (.goto 4, 3) := by decide +kernel
theorem dX10_together_70 : decode cX10_together 70 = .ok (.iconst 0, 1) := by decide +kernel
theorem dX10_together_71 : decode cX10_together 71 = .ok (.istore 4, 2) := by decide +kernel
theorem dX10_together_73 : decode cX10_together 73 = .ok (.iload 4, 2) := by decide +kernel
theorem dX10_together_75 : decode cX10_together 75 = .ok (.iload_n 3, 1) := by decide +kernel
theorem dX10_together_76 : decode cX10_together 76 = .ok (.if_icmp .le 8, 3) := by decide +kernel
theorem dX10_together_79 : decode cX10_together 79 = .ok (.iload 4, 2) := by decide +kernel
theorem dX10_together_81 : decode cX10_together 81 = .ok (.goto 4, 3) := by decide +kernel
theorem dX10_together_84 : decode cX10_together 84 = .ok (.iload_n 3, 1) := by decide +kernel
theorem dX10_together_85 : decode cX10_together 85 = .ok (.istore_n 3, 1) := by decide +kernel
theorem dX10_together_86 : decode cX10_together 86 = .ok (.iinc 5 1, 3) := by decide +kernel
theorem dX10_together_89 : decode cX10_together 89 = .ok (.goto (-55), 3) := by decide +kernel
theorem dX10_together_92 : decode cX10_together 92 = .ok (.iload_n 3, 1) := by decide +kernel
theorem dX10_together_93 : decode cX10_together 93 = .ok (.ireturn, 1) := by decide +kernel
theorem dX10_note_0 : decode cX10_note 0 = .ok (.aload_n 0, 1) := by decide +kernel
theorem dX10_note_1 : decode cX10_note 1 = .ok (.iload_n 1, 1) := by decide +kernel
theorem dX10_note_2 : decode cX10_note 2 = .ok (.invokevirtual 171, 3) := by decide +kernel
theorem dX10_note_5 : decode cX10_note 5 = .ok (.ifCond .eq 30, 3) := by decide +kernel
theorem dX10_note_8 : decode cX10_note 8 = .ok (.iload_n 2, 1) := by decide +kernel
theorem dX10_note_9 : decode cX10_note 9 = .ok (.invokestatic 168, 3) := by decide +kernel
theorem dX10_note_12 : decode cX10_note 12 = .ok (.ifCond .eq 23, 3) := by decide +kernel
theorem dX10_note_15 : decode cX10_note 15 = .ok (.iload_n 3, 1) := by decide +kernel
theorem dX10_note_16 : decode cX10_note 16 = .ok (.iconst 0, 1) := by decide +kernel
theorem dX10_note_17 : decode cX10_note 17 = .ok (.bipush 20, 2) := by decide +kernel
theorem dX10_note_19 : decode cX10_note 19 = .ok (.invokestatic 81, 3) := by decide +kernel
theorem dX10_note_22 : decode cX10_note 22 = .ok (.ifCond .eq 13, 3) := by decide +kernel
theorem dX10_note_25 : decode cX10_note 25 = .ok (.iload 4, 2) := by decide +kernel
theorem dX10_note_27 : decode cX10_note 27 = .ok (.iconst 0, 1) := by decide +kernel
theorem dX10_note_28 : decode cX10_note 28 = .ok (.iconst 1, 1) := by decide +kernel
theorem dX10_note_29 : decode cX10_note 29 = .ok (.invokestatic 81, 3) := by decide +kernel
theorem dX10_note_32 : decode cX10_note 32 = .ok (.ifCond .ne 8, 3) := by decide +kernel
theorem dX10_note_35 : decode cX10_note 35 = .ok (.aload_n 0, 1) := by decide +kernel
theorem dX10_note_36 : decode cX10_note 36 = .ok (.invokevirtual 85, 3) := by decide +kernel
theorem dX10_note_39 : decode cX10_note 39 = .ok (.ireturn, 1) := by decide +kernel
theorem dX10_note_40 : decode cX10_note 40 = .ok (.aload_n 0, 1) := by decide +kernel
theorem dX10_note_41 : decode cX10_note 41 = .ok (.getfield 75, 3) := by decide +kernel
theorem dX10_note_44 : decode cX10_note 44 = .ok (.bipush 6, 2) := by decide +kernel
theorem dX10_note_46 : decode cX10_note 46 = .ok (.if_icmp .ne 8, 3) := by decide +kernel
theorem dX10_note_49 : decode cX10_note 49 = .ok (.aload_n 0, 1) := by decide +kernel
theorem dX10_note_50 : decode cX10_note 50 = .ok (.invokevirtual 89, 3) := by decide +kernel
theorem dX10_note_53 : decode cX10_note 53 = .ok (.ireturn, 1) := by decide +kernel
theorem dX10_note_54 : decode cX10_note 54 = .ok (.aload_n 0, 1) := by decide +kernel
theorem dX10_note_55 : decode cX10_note 55 = .ok (.getfield 25, 3) := by decide +kernel
theorem dX10_note_58 : decode cX10_note 58 = .ok (.aload_n 0, 1) := by decide +kernel
theorem dX10_note_59 : decode cX10_note 59 = .ok (.getfield 75, 3) := by decide +kernel
theorem dX10_note_62 : decode cX10_note 62 = .ok (.iload_n 1, 1) := by decide +kernel
theorem dX10_note_63 : decode cX10_note 63 = .ok (.iastore, 1) := by decide +kernel
theorem dX10_note_64 : decode cX10_note 64 = .ok (.aload_n 0, 1) := by decide +kernel
theorem dX10_note_65 : decode cX10_note 65 = .ok (.getfield 28, 3) := by decide +kernel
theorem dX10_note_68 : decode cX10_note 68 = .ok (.aload_n 0, 1) := by decide +kernel
theorem dX10_note_69 : decode cX10_note 69 = .ok (.getfield 75, 3) := by decide +kernel
theorem dX10_note_72 : decode cX10_note 72 = .ok (.iload_n 2, 1) := by decide +kernel
theorem dX10_note_73 : decode cX10_note 73 = .ok (.iastore, 1) := by decide +kernel
theorem dX10_note_74 : decode cX10_note 74 = .ok (.aload_n 0, 1) := by decide +kernel
theorem dX10_note_75 : decode cX10_note 75 = .ok (.getfield 31, 3) := by decide +kernel
theorem dX10_note_78 : decode cX10_note 78 = .ok (.aload_n 0, 1) := by decide +kernel
theorem dX10_note_79 : decode cX10_note 79 = .ok (.getfield 75, 3) := by decide +kernel
theorem dX10_note_82 : decode cX10_note 82 = .ok (.iload_n 3, 1) := by decide +kernel
theorem dX10_note_83 : decode cX10_note 83 = .ok (.iastore, 1) := by decide +kernel
theorem dX10_note_84 : decode cX10_note 84 = .ok (.aload_n 0, 1) := by decide +kernel
theorem dX10_note_85 : decode cX10_note 85 = .ok (.getfield 34, 3) := by decide +kernel
theorem dX10_note_88 : decode cX10_note 88 = .ok (.aload_n 0, 1) := by decide +kernel
theorem dX10_note_89 : decode cX10_note 89 = .ok (.getfield 75, 3) := by decide +kernel
theorem dX10_note_92 : decode cX10_note 92 = .ok (.iload 4, 2) := by decide +kernel
theorem dX10_note_94 : decode cX10_note 94 = .ok (.iastore, 1) := by decide +kernel
theorem dX10_note_95 : decode cX10_note 95 = .ok (.aload_n 0, 1) := by decide +kernel
theorem dX10_note_96 : decode cX10_note 96 = .ok (.dup, 1) := by decide +kernel
theorem dX10_note_97 : decode cX10_note 97 = .ok (.getfield 75, 3) := by decide +kernel
theorem dX10_note_100 : decode cX10_note 100 = .ok (.iconst 1, 1) := by decide +kernel
theorem dX10_note_101 : decode cX10_note 101 = .ok (.iadd, 1) := by decide +kernel
theorem dX10_note_102 : decode cX10_note 102 = .ok (.putfield 75, 3) := by decide +kernel
theorem dX10_note_105 : decode cX10_note 105 = .ok (.aload_n 0, 1) := by decide +kernel
theorem dX10_note_106 : decode cX10_note 106 = .ok (.getfield 75, 3) := by decide +kernel
theorem dX10_note_109 : decode cX10_note 109 = .ok (.ireturn, 1) := by decide +kernel
theorem dX10_forget_0 : decode cX10_forget 0 = .ok (.aload_n 0, 1) := by decide +kernel
theorem dX10_forget_1 : decode cX10_forget 1 = .ok (.getfield 75, 3) := by decide +kernel
theorem dX10_forget_4 : decode cX10_forget 4 = .ok (.istore_n 1, 1) := by decide +kernel
theorem dX10_forget_5 : decode cX10_forget 5 = .ok (.aload_n 0, 1) := by decide +kernel
theorem dX10_forget_6 : decode cX10_forget 6 = .ok (.iconst 0, 1) := by decide +kernel
theorem dX10_forget_7 : decode cX10_forget 7 = .ok (.putfield 75, 3) := by decide +kernel
theorem dX10_forget_10 : decode cX10_forget 10 = .ok (.iload_n 1, 1) := by decide +kernel
theorem dX10_forget_11 : decode cX10_forget 11 = .ok (.ireturn, 1) := by decide +kernel
theorem dX10_kindsOf_0 : decode cX10_kindsOf 0 = .ok (.iconst 0, 1) := by decide +kernel
theorem dX10_kindsOf_1 : decode cX10_kindsOf 1 = .ok (.istore_n 2, 1) := by decide +kernel
theorem dX10_kindsOf_2 : decode cX10_kindsOf 2 = .ok (.iconst 0, 1) := by decide +kernel
theorem dX10_kindsOf_3 : decode cX10_kindsOf 3 = .ok (.istore_n 3, 1) := by decide +kernel
theorem dX10_kindsOf_4 : decode cX10_kindsOf 4 = .ok (.iload_n 3, 1) := by decide +kernel
theorem dX10_kindsOf_5 : decode cX10_kindsOf 5 = .ok (.bipush 6, 2) := by decide +kernel
theorem dX10_kindsOf_7 : decode cX10_kindsOf 7 = .ok (.if_icmp .ge 109, 3) := by decide +kernel
theorem dX10_kindsOf_10 : decode cX10_kindsOf 10 = .ok (.iconst 1, 1) := by decide +kernel
theorem dX10_kindsOf_11 : decode cX10_kindsOf 11 = .ok (.istore 4, 2) := by decide +kernel
theorem dX10_kindsOf_13 : decode cX10_kindsOf 13 = .ok (.iconst 0, 1) := by decide +kernel
theorem dX10_kindsOf_14 : decode cX10_kindsOf 14 = .ok (.istore 5, 2) := by decide +kernel
theorem dX10_kindsOf_16 : decode cX10_kindsOf 16 = .ok (.iload 5, 2) := by decide +kernel
theorem dX10_kindsOf_18 : decode cX10_kindsOf 18 = .ok (.aload_n 0, 1) := by decide +kernel
theorem dX10_kindsOf_19 : decode cX10_kindsOf 19 = .ok (.getfield 75, 3) := by decide +kernel
theorem dX10_kindsOf_22 : decode cX10_kindsOf 22 = .ok (.if_icmp .ge 73, 3) := by decide +kernel
theorem dX10_kindsOf_25 : decode cX10_kindsOf 25 = .ok (.aload_n 0, 1) := by decide +kernel
theorem dX10_kindsOf_26 : decode cX10_kindsOf 26 = .ok (.getfield 28, 3) := by decide +kernel
theorem dX10_kindsOf_29 : decode cX10_kindsOf 29 = .ok (.iload 5, 2) := by decide +kernel
theorem dX10_kindsOf_31 : decode cX10_kindsOf 31 = .ok (.iaload, 1) := by decide +kernel
theorem dX10_kindsOf_32 : decode cX10_kindsOf 32 = .ok (.istore 6, 2) := by decide +kernel
theorem dX10_kindsOf_34 : decode cX10_kindsOf 34 = .ok (.iload 4, 2) := by decide +kernel
theorem dX10_kindsOf_36 : decode cX10_kindsOf 36 = .ok (.ifCond .eq 50, 3) := by decide +kernel
theorem dX10_kindsOf_39 : decode cX10_kindsOf 39 = .ok (.aload_n 0, 1) := by decide +kernel
theorem dX10_kindsOf_40 : decode cX10_kindsOf 40 = .ok (.getfield 25, 3) := by decide +kernel
theorem dX10_kindsOf_43 : decode cX10_kindsOf 43 = .ok (.iload 5, 2) := by decide +kernel
theorem dX10_kindsOf_45 : decode cX10_kindsOf 45 = .ok (.iaload, 1) := by decide +kernel
theorem dX10_kindsOf_46 : decode cX10_kindsOf 46 = .ok (.iload_n 1, 1) := by decide +kernel
theorem dX10_kindsOf_47 : decode cX10_kindsOf 47 = .ok (.if_icmp .ne 35, 3) := by decide +kernel
theorem dX10_kindsOf_50 : decode cX10_kindsOf 50 = .ok (.iload_n 3, 1) := by decide +kernel
theorem dX10_kindsOf_51 : decode cX10_kindsOf 51 = .ok (.iload 6, 2) := by decide +kernel
theorem dX10_kindsOf_53 : decode cX10_kindsOf 53 = .ok (.aload_n 0, 1) := by decide +kernel
theorem dX10_kindsOf_54 : decode cX10_kindsOf 54 = .ok (.getfield 34, 3) := by decide +kernel
theorem dX10_kindsOf_57 : decode cX10_kindsOf 57 = .ok (.iload 5, 2) := by decide +kernel
theorem dX10_kindsOf_59 : decode cX10_kindsOf 59 = .ok (.iaload, 1) := by decide +kernel
theorem dX10_kindsOf_60 : decode cX10_kindsOf 60 = .ok (.iconst 1, 1) := by decide +kernel
theorem dX10_kindsOf_61 : decode cX10_kindsOf 61 = .ok (.if_icmp .ne 7, 3) := by decide +kernel
theorem dX10_kindsOf_64 : decode cX10_kindsOf 64 = .ok (.iconst 1, 1) := by decide +kernel
theorem dX10_kindsOf_65 : decode cX10_kindsOf 65 = .ok (.goto 4, 3) := by decide +kernel
theorem dX10_kindsOf_68 : decode cX10_kindsOf 68 = .ok (.iconst 0, 1) := by decide +kernel
theorem dX10_kindsOf_69 : decode cX10_kindsOf 69 = .ok (.invokestatic 154, 3) := by decide +kernel
theorem dX10_kindsOf_72 : decode cX10_kindsOf 72 = .ok (.aload_n 0, 1) := by decide +kernel
theorem dX10_kindsOf_73 : decode cX10_kindsOf 73 = .ok (.getfield 31, 3) := by decide +kernel
theorem dX10_kindsOf_76 : decode cX10_kindsOf 76 = .ok (.iload 5, 2) := by decide +kernel
theorem dX10_kindsOf_78 : decode cX10_kindsOf 78 = .ok (.iaload, 1) := by decide +kernel
theorem dX10_kindsOf_79 : decode cX10_kindsOf 79 = .ok (.if_icmp .ne 7, 3) := by decide +kernel
theorem dX10_kindsOf_82 : decode cX10_kindsOf 82 = .ok (.iconst 1, 1) := by decide +kernel
theorem dX10_kindsOf_83 : decode cX10_kindsOf 83 = .ok (.goto 4, 3) := by decide +kernel
theorem dX10_kindsOf_86 : decode cX10_kindsOf 86 = .ok (.iconst 0, 1) := by decide +kernel
theorem dX10_kindsOf_87 : decode cX10_kindsOf 87 = .ok (.istore 4, 2) := by decide +kernel
theorem dX10_kindsOf_89 : decode cX10_kindsOf 89 = .ok (.iinc 5 1, 3) := by decide +kernel
theorem dX10_kindsOf_92 : decode cX10_kindsOf 92 = .ok (.goto (-76), 3) := by decide +kernel
theorem dX10_kindsOf_95 : decode cX10_kindsOf 95 = .ok (.iload_n 2, 1) := by decide +kernel
theorem dX10_kindsOf_96 : decode cX10_kindsOf 96 = .ok (.iload 4, 2) := by decide +kernel
theorem dX10_kindsOf_98 : decode cX10_kindsOf 98 = .ok (.ifCond .eq 9, 3) := by decide +kernel
theorem dX10_kindsOf_101 : decode cX10_kindsOf 101 = .ok (.iconst 1, 1) := by decide +kernel
theorem dX10_kindsOf_102 : decode cX10_kindsOf 102 = .ok (.iload_n 3, 1) := by decide +kernel
theorem dX10_kindsOf_103 : decode cX10_kindsOf 103 = .ok (.ishl, 1) := by decide +kernel
theorem dX10_kindsOf_104 : decode cX10_kindsOf 104 = .ok (.goto 4, 3) := by decide +kernel
theorem dX10_kindsOf_107 : decode cX10_kindsOf 107 = .ok (.iconst 0, 1) := by decide +kernel
theorem dX10_kindsOf_108 : decode cX10_kindsOf 108 = .ok (.ior, 1) := by decide +kernel
theorem dX10_kindsOf_109 : decode cX10_kindsOf 109 = .ok (.istore_n 2, 1) := by decide +kernel
theorem dX10_kindsOf_110 : decode cX10_kindsOf 110 = .ok (.iinc 3 1, 3) := by decide +kernel
theorem dX10_kindsOf_113 : decode cX10_kindsOf 113 = .ok (.goto (-109), 3) := by decide +kernel
theorem dX10_kindsOf_116 : decode cX10_kindsOf 116 = .ok (.iload_n 2, 1) := by decide +kernel
theorem dX10_kindsOf_117 : decode cX10_kindsOf 117 = .ok (.ireturn, 1) := by decide +kernel
theorem dX10_is_0 : decode cX10_is 0 = .ok (.aload_n 0, 1) := by decide +kernel
theorem dX10_is_1 : decode cX10_is 1 = .ok (.iload_n 1, 1) := by decide +kernel
theorem dX10_is_2 : decode cX10_is 2 = .ok (.invokevirtual 171, 3) := by decide +kernel
theorem dX10_is_5 : decode cX10_is 5 = .ok (.ifCond .eq 11, 3) := by decide +kernel
theorem dX10_is_8 : decode cX10_is 8 = .ok (.aload_n 0, 1) := by decide +kernel
theorem dX10_is_9 : decode cX10_is 9 = .ok (.iload_n 1, 1) := by decide +kernel
theorem dX10_is_10 : decode cX10_is 10 = .ok (.invokevirtual 220, 3) := by decide +kernel
theorem dX10_is_13 : decode cX10_is 13 = .ok (.goto 7, 3) := by decide +kernel
theorem dX10_is_16 : decode cX10_is 16 = .ok (.aload_n 0, 1) := by decide +kernel
theorem dX10_is_17 : decode cX10_is 17 = .ok (.invokevirtual 85, 3) := by decide +kernel
theorem dX10_is_20 : decode cX10_is 20 = .ok (.ireturn, 1) := by decide +kernel
theorem dX10_alike_0 : decode cX10_alike 0 = .ok (.iconst 0, 1) := by decide +kernel
theorem dX10_alike_1 : decode cX10_alike 1 = .ok (.istore_n 2, 1) := by decide +kernel
theorem dX10_alike_2 : decode cX10_alike 2 = .ok (.iconst 0, 1) := by decide +kernel
theorem dX10_alike_3 : decode cX10_alike 3 = .ok (.istore_n 3, 1) := by decide +kernel
theorem dX10_alike_4 : decode cX10_alike 4 = .ok (.iload_n 3, 1) := by decide +kernel
theorem dX10_alike_5 : decode cX10_alike 5 = .ok (.bipush 6, 2) := by decide +kernel
theorem dX10_alike_7 : decode cX10_alike 7 = .ok (.if_icmp .ge 84, 3) := by decide +kernel
theorem dX10_alike_10 : decode cX10_alike 10 = .ok (.iconst 0, 1) := by decide +kernel
theorem dX10_alike_11 : decode cX10_alike 11 = .ok (.istore 4, 2) := by decide +kernel
theorem dX10_alike_13 : decode cX10_alike 13 = .ok (.iconst 0, 1) := by decide +kernel
theorem dX10_alike_14 : decode cX10_alike 14 = .ok (.istore 5, 2) := by decide +kernel
theorem dX10_alike_16 : decode cX10_alike 16 = .ok (.iload 5, 2) := by decide +kernel
theorem dX10_alike_18 : decode cX10_alike 18 = .ok (.bipush 6, 2) := by decide +kernel
theorem dX10_alike_20 : decode cX10_alike 20 = .ok (.if_icmp .ge 52, 3) := by decide +kernel
theorem dX10_alike_23 : decode cX10_alike 23 = .ok (.iload 4, 2) := by decide +kernel
theorem dX10_alike_25 : decode cX10_alike 25 = .ok (.iload_n 0, 1) := by decide +kernel
theorem dX10_alike_26 : decode cX10_alike 26 = .ok (.iload_n 3, 1) := by decide +kernel
theorem dX10_alike_27 : decode cX10_alike 27 = .ok (.invokestatic 151, 3) := by decide +kernel
theorem dX10_alike_30 : decode cX10_alike 30 = .ok (.ifCond .eq 32, 3) := by decide +kernel
theorem dX10_alike_33 : decode cX10_alike 33 = .ok (.iload_n 0, 1) := by decide +kernel
theorem dX10_alike_34 : decode cX10_alike 34 = .ok (.iload 5, 2) := by decide +kernel
theorem dX10_alike_36 : decode cX10_alike 36 = .ok (.invokestatic 151, 3) := by decide +kernel
theorem dX10_alike_39 : decode cX10_alike 39 = .ok (.ifCond .eq 23, 3) := by decide +kernel
theorem dX10_alike_42 : decode cX10_alike 42 = .ok (.iload_n 3, 1) := by decide +kernel
theorem dX10_alike_43 : decode cX10_alike 43 = .ok (.iload_n 1, 1) := by decide +kernel
theorem dX10_alike_44 : decode cX10_alike 44 = .ok (.iconst 0, 1) := by decide +kernel
theorem dX10_alike_45 : decode cX10_alike 45 = .ok (.invokestatic 154, 3) := by decide +kernel
theorem dX10_alike_48 : decode cX10_alike 48 = .ok (.iload 5, 2) := by decide +kernel
theorem dX10_alike_50 : decode cX10_alike 50 = .ok (.iload_n 1, 1) := by decide +kernel
theorem dX10_alike_51 : decode cX10_alike 51 = .ok (.iconst 0, 1) := by decide +kernel
theorem dX10_alike_52 : decode cX10_alike 52 = .ok (.invokestatic 154, 3) := by decide +kernel
theorem dX10_alike_55 : decode cX10_alike 55 = .ok (.if_icmp .ne 7, 3) := by decide +kernel
theorem dX10_alike_58 : decode cX10_alike 58 = .ok (.iconst 1, 1) := by decide +kernel
theorem dX10_alike_59 : decode cX10_alike 59 = .ok (.goto 4, 3) := by decide +kernel
theorem dX10_alike_62 : decode cX10_alike 62 = .ok (.iconst 0, 1) := by decide +kernel
theorem dX10_alike_63 : decode cX10_alike 63 = .ok (.iadd, 1) := by decide +kernel
theorem dX10_alike_64 : decode cX10_alike 64 = .ok (.istore 4, 2) := by decide +kernel
theorem dX10_alike_66 : decode cX10_alike 66 = .ok (.iinc 5 1, 3) := by decide +kernel
theorem dX10_alike_69 : decode cX10_alike 69 = .ok (.goto (-53), 3) := by decide +kernel
theorem dX10_alike_72 : decode cX10_alike 72 = .ok (.iload 4, 2) := by decide +kernel
theorem dX10_alike_74 : decode cX10_alike 74 = .ok (.iload_n 2, 1) := by decide +kernel
theorem dX10_alike_75 : decode cX10_alike 75 = .ok (.if_icmp .le 8, 3) := by decide +kernel
theorem dX10_alike_78 : decode cX10_alike 78 = .ok (.iload 4, 2) := by decide +kernel
theorem dX10_alike_80 : decode cX10_alike 80 = .ok (.goto 4, 3) := by decide +kernel
theorem dX10_alike_83 : decode cX10_alike 83 = .ok (.iload_n 2, 1) := by decide +kernel
theorem dX10_alike_84 : decode cX10_alike 84 = .ok (.istore_n 2, 1) := by decide +kernel
theorem dX10_alike_85 : decode cX10_alike 85 = .ok (.iinc 3 1, 3) := by decide +kernel
theorem dX10_alike_88 : decode cX10_alike 88 = .ok (.goto (-84), 3) := by decide +kernel
theorem dX10_alike_91 : decode cX10_alike 91 = .ok (.iload_n 2, 1) := by decide +kernel
theorem dX10_alike_92 : decode cX10_alike 92 = .ok (.ireturn, 1) := by decide +kernel
theorem dX10_asks_0 : decode cX10_asks 0 = .ok (.aload_n 0, 1) := by decide +kernel
theorem dX10_asks_1 : decode cX10_asks 1 = .ok (.iload_n 1, 1) := by decide +kernel
theorem dX10_asks_2 : decode cX10_asks 2 = .ok (.invokevirtual 171, 3) := by decide +kernel
theorem dX10_asks_5 : decode cX10_asks 5 = .ok (.ifCond .ne 8, 3) := by decide +kernel
theorem dX10_asks_8 : decode cX10_asks 8 = .ok (.aload_n 0, 1) := by decide +kernel
theorem dX10_asks_9 : decode cX10_asks 9 = .ok (.invokevirtual 85, 3) := by decide +kernel
theorem dX10_asks_12 : decode cX10_asks 12 = .ok (.ireturn, 1) := by decide +kernel
theorem dX10_asks_13 : decode cX10_asks 13 = .ok (.aload_n 0, 1) := by decide +kernel
theorem dX10_asks_14 : decode cX10_asks 14 = .ok (.iload_n 1, 1) := by decide +kernel
theorem dX10_asks_15 : decode cX10_asks 15 = .ok (.invokevirtual 220, 3) := by decide +kernel
theorem dX10_asks_18 : decode cX10_asks 18 = .ok (.istore_n 2, 1) := by decide +kernel
theorem dX10_asks_19 : decode cX10_asks 19 = .ok (.iload_n 2, 1) := by decide +kernel
theorem dX10_asks_20 : decode cX10_asks 20 = .ok (.ifCond .ne 7, 3) := by decide +kernel
theorem dX10_asks_23 : decode cX10_asks 23 = .ok (.iconst (-1), 1) := by decide +kernel
theorem dX10_asks_24 : decode cX10_asks 24 = .ok (.goto 4, 3) := by decide +kernel
theorem dX10_asks_27 : decode cX10_asks 27 = .ok (.iconst 0, 1) := by decide +kernel
theorem dX10_asks_28 : decode cX10_asks 28 = .ok (.istore_n 3, 1) := by decide +kernel
theorem dX10_asks_29 : decode cX10_asks 29 = .ok (.iconst 1, 1) := by decide +kernel
theorem dX10_asks_30 : decode cX10_asks 30 = .ok (.istore 4, 2) := by decide +kernel
theorem dX10_asks_32 : decode cX10_asks 32 = .ok (.iload 4, 2) := by decide +kernel
theorem dX10_asks_34 : decode cX10_asks 34 = .ok (.bipush 12, 2) := by decide +kernel
theorem dX10_asks_36 : decode cX10_asks 36 = .ok (.if_icmp .ge 34, 3) := by decide +kernel
theorem dX10_asks_39 : decode cX10_asks 39 = .ok (.iload_n 2, 1) := by decide +kernel
theorem dX10_asks_40 : decode cX10_asks 40 = .ok (.ifCond .eq 30, 3) := by decide +kernel
theorem dX10_asks_43 : decode cX10_asks 43 = .ok (.iload_n 2, 1) := by decide +kernel
theorem dX10_asks_44 : decode cX10_asks 44 = .ok (.iload 4, 2) := by decide +kernel
theorem dX10_asks_46 : decode cX10_asks 46 = .ok (.invokestatic 223, 3) := by decide +kernel
theorem dX10_asks_49 : decode cX10_asks 49 = .ok (.iload_n 2, 1) := by decide +kernel
theorem dX10_asks_50 : decode cX10_asks 50 = .ok (.iload_n 3, 1) := by decide +kernel
theorem dX10_asks_51 : decode cX10_asks 51 = .ok (.invokestatic 223, 3) := by decide +kernel
theorem dX10_asks_54 : decode cX10_asks 54 = .ok (.if_icmp .ge 8, 3) := by decide +kernel
theorem dX10_asks_57 : decode cX10_asks 57 = .ok (.iload 4, 2) := by decide +kernel
theorem dX10_asks_59 : decode cX10_asks 59 = .ok (.goto 4, 3) := by decide +kernel
theorem dX10_asks_62 : decode cX10_asks 62 = .ok (.iload_n 3, 1) := by decide +kernel
theorem dX10_asks_63 : decode cX10_asks 63 = .ok (.istore_n 3, 1) := by decide +kernel
theorem dX10_asks_64 : decode cX10_asks 64 = .ok (.iinc 4 1, 3) := by decide +kernel
theorem dX10_asks_67 : decode cX10_asks 67 = .ok (.goto (-35), 3) := by decide +kernel
theorem dX10_asks_70 : decode cX10_asks 70 = .ok (.iload_n 3, 1) := by decide +kernel
theorem dX10_asks_71 : decode cX10_asks 71 = .ok (.ireturn, 1) := by decide +kernel
theorem dX10_took_0 : decode cX10_took 0 = .ok (.aload_n 0, 1) := by decide +kernel
theorem dX10_took_1 : decode cX10_took 1 = .ok (.iload_n 1, 1) := by decide +kernel
theorem dX10_took_2 : decode cX10_took 2 = .ok (.invokevirtual 171, 3) := by decide +kernel
theorem dX10_took_5 : decode cX10_took 5 = .ok (.ifCond .eq 14, 3) := by decide +kernel
theorem dX10_took_8 : decode cX10_took 8 = .ok (.iload_n 2, 1) := by decide +kernel
theorem dX10_took_9 : decode cX10_took 9 = .ok (.iconst 0, 1) := by decide +kernel
theorem dX10_took_10 : decode cX10_took 10 = .ok (.sipush 4095, 3) := by decide +kernel
theorem dX10_took_13 : decode cX10_took 13 = .ok (.invokestatic 81, 3) := by decide +kernel
theorem dX10_took_16 : decode cX10_took 16 = .ok (.ifCond .ne 8, 3) := by decide +kernel
theorem dX10_took_19 : decode cX10_took 19 = .ok (.aload_n 0, 1) := by decide +kernel
theorem dX10_took_20 : decode cX10_took 20 = .ok (.invokevirtual 85, 3) := by decide +kernel
theorem dX10_took_23 : decode cX10_took 23 = .ok (.ireturn, 1) := by decide +kernel
theorem dX10_took_24 : decode cX10_took 24 = .ok (.aload_n 0, 1) := by decide +kernel
theorem dX10_took_25 : decode cX10_took 25 = .ok (.iload_n 1, 1) := by decide +kernel
theorem dX10_took_26 : decode cX10_took 26 = .ok (.invokevirtual 161, 3) := by decide +kernel
theorem dX10_took_29 : decode cX10_took 29 = .ok (.istore_n 3, 1) := by decide +kernel
theorem dX10_took_30 : decode cX10_took 30 = .ok (.iload_n 3, 1) := by decide +kernel
theorem dX10_took_31 : decode cX10_took 31 = .ok (.iload_n 2, 1) := by decide +kernel
theorem dX10_took_32 : decode cX10_took 32 = .ok (.iconst (-1), 1) := by decide +kernel
theorem dX10_took_33 : decode cX10_took 33 = .ok (.ixor, 1) := by decide +kernel
theorem dX10_took_34 : decode cX10_took 34 = .ok (.iand, 1) := by decide +kernel
theorem dX10_took_35 : decode cX10_took 35 = .ok (.ifCond .eq 5, 3) := by decide +kernel
theorem dX10_took_38 : decode cX10_took 38 = .ok (.iconst 0, 1) := by decide +kernel
theorem dX10_took_39 : decode cX10_took 39 = .ok (.ireturn, 1) := by decide +kernel
theorem dX10_took_40 : decode cX10_took 40 = .ok (.iconst 0, 1) := by decide +kernel
theorem dX10_took_41 : decode cX10_took 41 = .ok (.istore 4, 2) := by decide +kernel
theorem dX10_took_43 : decode cX10_took 43 = .ok (.iconst 0, 1) := by decide +kernel
theorem dX10_took_44 : decode cX10_took 44 = .ok (.istore 5, 2) := by decide +kernel
theorem dX10_took_46 : decode cX10_took 46 = .ok (.iload 5, 2) := by decide +kernel
theorem dX10_took_48 : decode cX10_took 48 = .ok (.aload_n 0, 1) := by decide +kernel
theorem dX10_took_49 : decode cX10_took 49 = .ok (.getfield 71, 3) := by decide +kernel
theorem dX10_took_52 : decode cX10_took 52 = .ok (.if_icmp .ge 45, 3) := by decide +kernel
theorem dX10_took_55 : decode cX10_took 55 = .ok (.iload 4, 2) := by decide +kernel
theorem dX10_took_57 : decode cX10_took 57 = .ok (.iload 5, 2) := by decide +kernel
theorem dX10_took_59 : decode cX10_took 59 = .ok (.iload_n 1, 1) := by decide +kernel
theorem dX10_took_60 : decode cX10_took 60 = .ok (.if_icmp .eq 27, 3) := by decide +kernel
theorem dX10_took_63 : decode cX10_took 63 = .ok (.iload_n 2, 1) := by decide +kernel
theorem dX10_took_64 : decode cX10_took 64 = .ok (.iload_n 3, 1) := by decide +kernel
theorem dX10_took_65 : decode cX10_took 65 = .ok (.iconst (-1), 1) := by decide +kernel
theorem dX10_took_66 : decode cX10_took 66 = .ok (.ixor, 1) := by decide +kernel
theorem dX10_took_67 : decode cX10_took 67 = .ok (.iand, 1) := by decide +kernel
theorem dX10_took_68 : decode cX10_took 68 = .ok (.aload_n 0, 1) := by decide +kernel
theorem dX10_took_69 : decode cX10_took 69 = .ok (.iload 5, 2) := by decide +kernel
theorem dX10_took_71 : decode cX10_took 71 = .ok (.invokevirtual 161, 3) := by decide +kernel
theorem dX10_took_74 : decode cX10_took 74 = .ok (.iconst (-1), 1) := by decide +kernel
theorem dX10_took_75 : decode cX10_took 75 = .ok (.ixor, 1) := by decide +kernel
theorem dX10_took_76 : decode cX10_took 76 = .ok (.iand, 1) := by decide +kernel
theorem dX10_took_77 : decode cX10_took 77 = .ok (.ifCond .ne 10, 3) := by decide +kernel
theorem dX10_took_80 : decode cX10_took 80 = .ok (.iconst 1, 1) := by decide +kernel
theorem dX10_took_81 : decode cX10_took 81 = .ok (.iload 5, 2) := by decide +kernel
theorem dX10_took_83 : decode cX10_took 83 = .ok (.ishl, 1) := by decide +kernel
theorem dX10_took_84 : decode cX10_took 84 = .ok (.goto 4, 3) := by decide +kernel
theorem dX10_took_87 : decode cX10_took 87 = .ok (.iconst 0, 1) := by decide +kernel
theorem dX10_took_88 : decode cX10_took 88 = .ok (.ior, 1) := by decide +kernel
theorem dX10_took_89 : decode cX10_took 89 = .ok (.istore 4, 2) := by decide +kernel
theorem dX10_took_91 : decode cX10_took 91 = .ok (.iinc 5 1, 3) := by decide +kernel
theorem dX10_took_94 : decode cX10_took 94 = .ok (.goto (-48), 3) := by decide +kernel
theorem dX10_took_97 : decode cX10_took 97 = .ok (.iload 4, 2) := by decide +kernel
theorem dX10_took_99 : decode cX10_took 99 = .ok (.ireturn, 1) := by decide +kernel
theorem dX10_lay_0 : decode cX10_lay 0 = .ok (.lload_n 1, 1) := by decide +kernel
theorem dX10_lay_1 : decode cX10_lay 1 = .ok (.lstore 5, 2) := by decide +kernel
theorem dX10_lay_3 : decode cX10_lay 3 = .ok (.lload_n 3, 1) := by decide +kernel
theorem dX10_lay_4 : decode cX10_lay 4 = .ok (.lstore 7, 2) := by decide +kernel
theorem dX10_lay_6 : decode cX10_lay 6 = .ok (.lload 7, 2) := by decide +kernel
theorem dX10_lay_8 : decode cX10_lay 8 = .ok (.lconst 0, 1) := by decide +kernel
theorem dX10_lay_9 : decode cX10_lay 9 = .ok (.lcmp, 1) := by decide +kernel
theorem dX10_lay_10 : decode cX10_lay 10 = .ok (.ifCond .eq 21, 3) := by decide +kernel
theorem dX10_lay_13 : decode cX10_lay 13 = .ok (.lload 5, 2) := by decide +kernel
theorem dX10_lay_15 : decode cX10_lay 15 = .ok (.lload 7, 2) := by decide +kernel
theorem dX10_lay_17 : decode cX10_lay 17 = .ok (.lrem, 1) := by decide +kernel
theorem dX10_lay_18 : decode cX10_lay 18 = .ok (.lstore 9, 2) := by decide +kernel
theorem dX10_lay_20 : decode cX10_lay 20 = .ok (.lload 7, 2) := by decide +kernel
theorem dX10_lay_22 : decode cX10_lay 22 = .ok (.lstore 5, 2) := by decide +kernel
theorem dX10_lay_24 : decode cX10_lay 24 = .ok (.lload 9, 2) := by decide +kernel
theorem dX10_lay_26 : decode cX10_lay 26 = .ok (.lstore 7, 2) := by decide +kernel
theorem dX10_lay_28 : decode cX10_lay 28 = .ok (.goto (-22), 3) := by decide +kernel
theorem dX10_lay_31 : decode cX10_lay 31 = .ok (.aload_n 0, 1) := by decide +kernel
theorem dX10_lay_32 : decode cX10_lay 32 = .ok (.lload_n 1, 1) := by decide +kernel
theorem dX10_lay_33 : decode cX10_lay 33 = .ok (.lload 5, 2) := by decide +kernel
theorem dX10_lay_35 : decode cX10_lay 35 = .ok (.ldiv, 1) := by decide +kernel
theorem dX10_lay_36 : decode cX10_lay 36 = .ok (.putfield 226, 3) := by decide +kernel
theorem dX10_lay_39 : decode cX10_lay 39 = .ok (.aload_n 0, 1) := by decide +kernel
theorem dX10_lay_40 : decode cX10_lay 40 = .ok (.lload_n 3, 1) := by decide +kernel
theorem dX10_lay_41 : decode cX10_lay 41 = .ok (.lload 5, 2) := by decide +kernel
theorem dX10_lay_43 : decode cX10_lay 43 = .ok (.ldiv, 1) := by decide +kernel
theorem dX10_lay_44 : decode cX10_lay 44 = .ok (.putfield 58, 3) := by decide +kernel
theorem dX10_lay_47 : decode cX10_lay 47 = .ok (.return_, 1) := by decide +kernel
theorem dX10_owls_0 : decode cX10_owls 0 = .ok (.aload_n 0, 1) := by decide +kernel
theorem dX10_owls_1 : decode cX10_owls 1 = .ok (.iload_n 1, 1) := by decide +kernel
theorem dX10_owls_2 : decode cX10_owls 2 = .ok (.invokevirtual 171, 3) := by decide +kernel
theorem dX10_owls_5 : decode cX10_owls 5 = .ok (.ifCond .eq 13, 3) := by decide +kernel
theorem dX10_owls_8 : decode cX10_owls 8 = .ok (.iload_n 2, 1) := by decide +kernel
theorem dX10_owls_9 : decode cX10_owls 9 = .ok (.iconst 0, 1) := by decide +kernel
theorem dX10_owls_10 : decode cX10_owls 10 = .ok (.bipush 10, 2) := by decide +kernel
theorem dX10_owls_12 : decode cX10_owls 12 = .ok (.invokestatic 81, 3) := by decide +kernel
theorem dX10_owls_15 : decode cX10_owls 15 = .ok (.ifCond .ne 8, 3) := by decide +kernel
theorem dX10_owls_18 : decode cX10_owls 18 = .ok (.aload_n 0, 1) := by decide +kernel
theorem dX10_owls_19 : decode cX10_owls 19 = .ok (.invokevirtual 85, 3) := by decide +kernel
theorem dX10_owls_22 : decode cX10_owls 22 = .ok (.ireturn, 1) := by decide +kernel
theorem dX10_owls_23 : decode cX10_owls 23 = .ok (.aload_n 0, 1) := by decide +kernel
theorem dX10_owls_24 : decode cX10_owls 24 = .ok (.iload_n 1, 1) := by decide +kernel
theorem dX10_owls_25 : decode cX10_owls 25 = .ok (.invokevirtual 161, 3) := by decide +kernel
theorem dX10_owls_28 : decode cX10_owls 28 = .ok (.istore_n 3, 1) := by decide +kernel
theorem dX10_owls_29 : decode cX10_owls 29 = .ok (.iconst 0, 1) := by decide +kernel
theorem dX10_owls_30 : decode cX10_owls 30 = .ok (.istore 4, 2) := by decide +kernel
theorem dX10_owls_32 : decode cX10_owls 32 = .ok (.iconst 0, 1) := by decide +kernel
theorem dX10_owls_33 : decode cX10_owls 33 = .ok (.istore 5, 2) := by decide +kernel
theorem dX10_owls_35 : decode cX10_owls 35 = .ok (.iload 5, 2) := by decide +kernel
theorem dX10_owls_37 : decode cX10_owls 37 = .ok (.bipush 12, 2) := by decide +kernel
theorem dX10_owls_39 : decode cX10_owls 39 = .ok (.if_icmp .ge 56, 3) := by decide +kernel
theorem dX10_owls_42 : decode cX10_owls 42 = .ok (.iload 4, 2) := by decide +kernel
theorem dX10_owls_44 : decode cX10_owls 44 = .ok (.iload_n 3, 1) := by decide +kernel
theorem dX10_owls_45 : decode cX10_owls 45 = .ok (.iload 5, 2) := by decide +kernel
theorem dX10_owls_47 : decode cX10_owls 47 = .ok (.invokestatic 151, 3) := by decide +kernel
theorem dX10_owls_50 : decode cX10_owls 50 = .ok (.ifCond .eq 35, 3) := by decide +kernel
theorem dX10_owls_53 : decode cX10_owls 53 = .ok (.aload_n 0, 1) := by decide +kernel
theorem dX10_owls_54 : decode cX10_owls 54 = .ok (.iload_n 1, 1) := by decide +kernel
theorem dX10_owls_55 : decode cX10_owls 55 = .ok (.iload 5, 2) := by decide +kernel
theorem dX10_owls_57 : decode cX10_owls 57 = .ok (.iload_n 3, 1) := by decide +kernel
theorem dX10_owls_58 : decode cX10_owls 58 = .ok (.invokevirtual 158, 3) := by decide +kernel
theorem dX10_owls_61 : decode cX10_owls 61 = .ok (.iload 5, 2) := by decide +kernel
theorem dX10_owls_63 : decode cX10_owls 63 = .ok (.iconst 4, 1) := by decide +kernel
theorem dX10_owls_64 : decode cX10_owls 64 = .ok (.bipush 7, 2) := by decide +kernel
theorem dX10_owls_66 : decode cX10_owls 66 = .ok (.invokestatic 81, 3) := by decide +kernel
theorem dX10_owls_69 : decode cX10_owls 69 = .ok (.ifCond .eq 10, 3) := by decide +kernel
theorem dX10_owls_72 : decode cX10_owls 72 = .ok (.bipush 10, 2) := by decide +kernel
theorem dX10_owls_74 : decode cX10_owls 74 = .ok (.iload_n 2, 1) := by decide +kernel
theorem dX10_owls_75 : decode cX10_owls 75 = .ok (.isub, 1) := by decide +kernel
theorem dX10_owls_76 : decode cX10_owls 76 = .ok (.goto 5, 3) := by decide +kernel
theorem dX10_owls_79 : decode cX10_owls 79 = .ok (.bipush 10, 2) := by decide +kernel
theorem dX10_owls_81 : decode cX10_owls 81 = .ok (.imul, 1) := by decide +kernel
theorem dX10_owls_82 : decode cX10_owls 82 = .ok (.goto 4, 3) := by decide +kernel
theorem dX10_owls_85 : decode cX10_owls 85 = .ok (.iconst 0, 1) := by decide +kernel
theorem dX10_owls_86 : decode cX10_owls 86 = .ok (.iadd, 1) := by decide +kernel
theorem dX10_owls_87 : decode cX10_owls 87 = .ok (.istore 4, 2) := by decide +kernel
theorem dX10_owls_89 : decode cX10_owls 89 = .ok (.iinc 5 1, 3) := by decide +kernel
theorem dX10_owls_92 : decode cX10_owls 92 = .ok (.goto (-57), 3) := by decide +kernel
theorem dX10_owls_95 : decode cX10_owls 95 = .ok (.aload_n 0, 1) := by decide +kernel
theorem dX10_owls_96 : decode cX10_owls 96 = .ok (.iload 4, 2) := by decide +kernel
theorem dX10_owls_98 : decode cX10_owls 98 = .ok (.i2l, 1) := by decide +kernel
theorem dX10_owls_99 : decode cX10_owls 99 = .ok (.ldc2_w 229, 3) := by decide +kernel
theorem dX10_owls_102 : decode cX10_owls 102 = .ok (.invokevirtual 231, 3) := by decide +kernel
theorem dX10_owls_105 : decode cX10_owls 105 = .ok (.iconst 1, 1) := by decide +kernel
theorem dX10_owls_106 : decode cX10_owls 106 = .ok (.ireturn, 1) := by decide +kernel
theorem dX10_terms_0 : decode cX10_terms 0 = .ok (.iload_n 1, 1) := by decide +kernel
theorem dX10_terms_1 : decode cX10_terms 1 = .ok (.iconst 0, 1) := by decide +kernel
theorem dX10_terms_2 : decode cX10_terms 2 = .ok (.ldc 235, 2) := by decide +kernel
theorem dX10_terms_4 : decode cX10_terms 4 = .ok (.invokestatic 81, 3) := by decide +kernel
theorem dX10_terms_7 : decode cX10_terms 7 = .ok (.ifCond .eq 13, 3) := by decide +kernel
theorem dX10_terms_10 : decode cX10_terms 10 = .ok (.iload_n 2, 1) := by decide +kernel
theorem dX10_terms_11 : decode cX10_terms 11 = .ok (.iconst 0, 1) := by decide +kernel
theorem dX10_terms_12 : decode cX10_terms 12 = .ok (.bipush 60, 2) := by decide +kernel
theorem dX10_terms_14 : decode cX10_terms 14 = .ok (.invokestatic 81, 3) := by decide +kernel
theorem dX10_terms_17 : decode cX10_terms 17 = .ok (.ifCond .ne 8, 3) := by decide +kernel
theorem dX10_terms_20 : decode cX10_terms 20 = .ok (.aload_n 0, 1) := by decide +kernel
theorem dX10_terms_21 : decode cX10_terms 21 = .ok (.invokevirtual 85, 3) := by decide +kernel
theorem dX10_terms_24 : decode cX10_terms 24 = .ok (.ireturn, 1) := by decide +kernel
theorem dX10_terms_25 : decode cX10_terms 25 = .ok (.aload_n 0, 1) := by decide +kernel
theorem dX10_terms_26 : decode cX10_terms 26 = .ok (.invokevirtual 211, 3) := by decide +kernel
theorem dX10_terms_29 : decode cX10_terms 29 = .ok (.iload_n 1, 1) := by decide +kernel
theorem dX10_terms_30 : decode cX10_terms 30 = .ok (.i2l, 1) := by decide +kernel
theorem dX10_terms_31 : decode cX10_terms 31 = .ok (.lstore_n 3, 1) := by decide +kernel
theorem dX10_terms_32 : decode cX10_terms 32 = .ok (.iconst 0, 1) := by decide +kernel
theorem dX10_terms_33 : decode cX10_terms 33 = .ok (.istore 5, 2) := by decide +kernel
theorem dX10_terms_35 : decode cX10_terms 35 = .ok (.iconst 0, 1) := by decide +kernel
theorem dX10_terms_36 : decode cX10_terms 36 = .ok (.istore 6, 2) := by decide +kernel
theorem dX10_terms_38 : decode cX10_terms 38 = .ok (.iload 6, 2) := by decide +kernel
theorem dX10_terms_40 : decode cX10_terms 40 = .ok (.iload_n 2, 1) := by decide +kernel
theorem dX10_terms_41 : decode cX10_terms 41 = .ok (.if_icmp .ge 83, 3) := by decide +kernel
theorem dX10_terms_44 : decode cX10_terms 44 = .ok (.lload_n 3, 1) := by decide +kernel
theorem dX10_terms_45 : decode cX10_terms 45 = .ok (.ldc2_w 236, 3) := by decide +kernel
theorem dX10_terms_48 : decode cX10_terms 48 = .ok (.lmul, 1) := by decide +kernel
theorem dX10_terms_49 : decode cX10_terms 49 = .ok (.ldc2_w 238, 3) := by decide +kernel
theorem dX10_terms_52 : decode cX10_terms 52 = .ok (.ladd, 1) := by decide +kernel
theorem dX10_terms_53 : decode cX10_terms 53 = .ok (.ldc2_w 240, 3) := by decide +kernel
theorem dX10_terms_56 : decode cX10_terms 56 = .ok (.lrem, 1) := by decide +kernel
theorem dX10_terms_57 : decode cX10_terms 57 = .ok (.lstore_n 3, 1) := by decide +kernel
theorem dX10_terms_58 : decode cX10_terms 58 = .ok (.lload_n 3, 1) := by decide +kernel
theorem dX10_terms_59 : decode cX10_terms 59 = .ok (.ldc2_w 242, 3) := by decide +kernel
theorem dX10_terms_62 : decode cX10_terms 62 = .ok (.ldiv, 1) := by decide +kernel
theorem dX10_terms_63 : decode cX10_terms 63 = .ok (.ldc2_w 244, 3) := by decide +kernel
theorem dX10_terms_66 : decode cX10_terms 66 = .ok (.lrem, 1) := by decide +kernel
theorem dX10_terms_67 : decode cX10_terms 67 = .ok (.l2i, 1) := by decide +kernel
theorem dX10_terms_68 : decode cX10_terms 68 = .ok (.istore 7, 2) := by decide +kernel
theorem dX10_terms_70 : decode cX10_terms 70 = .ok (.lload_n 3, 1) := by decide +kernel
theorem dX10_terms_71 : decode cX10_terms 71 = .ok (.ldc2_w 236, 3) := by decide +kernel
theorem dX10_terms_74 : decode cX10_terms 74 = .ok (.lmul, 1) := by decide +kernel
theorem dX10_terms_75 : decode cX10_terms 75 = .ok (.ldc2_w 238, 3) := by decide +kernel
theorem dX10_terms_78 : decode cX10_terms 78 = .ok (.ladd, 1) := by decide +kernel
theorem dX10_terms_79 : decode cX10_terms 79 = .ok (.ldc2_w 240, 3) := by decide +kernel
theorem dX10_terms_82 : decode cX10_terms 82 = .ok (.lrem, 1) := by decide +kernel
theorem dX10_terms_83 : decode cX10_terms 83 = .ok (.lstore_n 3, 1) := by decide +kernel
theorem dX10_terms_84 : decode cX10_terms 84 = .ok (.lload_n 3, 1) := by decide +kernel
theorem dX10_terms_85 : decode cX10_terms 85 = .ok (.ldc2_w 242, 3) := by decide +kernel
theorem dX10_terms_88 : decode cX10_terms 88 = .ok (.ldiv, 1) := by decide +kernel
theorem dX10_terms_89 : decode cX10_terms 89 = .ok (.ldc2_w 244, 3) := by decide +kernel
theorem dX10_terms_92 : decode cX10_terms 92 = .ok (.lrem, 1) := by decide +kernel
theorem dX10_terms_93 : decode cX10_terms 93 = .ok (.l2i, 1) := by decide +kernel
theorem dX10_terms_94 : decode cX10_terms 94 = .ok (.istore 8, 2) := by decide +kernel
theorem dX10_terms_96 : decode cX10_terms 96 = .ok (.aload_n 0, 1) := by decide +kernel
theorem dX10_terms_97 : decode cX10_terms 97 = .ok (.iload 7, 2) := by decide +kernel
theorem dX10_terms_99 : decode cX10_terms 99 = .ok (.iload 8, 2) := by decide +kernel
theorem dX10_terms_101 : decode cX10_terms 101 = .ok (.invokevirtual 208, 3) := by decide +kernel
theorem dX10_terms_104 : decode cX10_terms 104 = .ok (.ifCond .eq 14, 3) := by decide +kernel
theorem dX10_terms_107 : decode cX10_terms 107 = .ok (.aload_n 0, 1) := by decide +kernel
theorem dX10_terms_108 : decode cX10_terms 108 = .ok (.iload 7, 2) := by decide +kernel
theorem dX10_terms_110 : decode cX10_terms 110 = .ok (.iload 8, 2) := by decide +kernel
theorem dX10_terms_112 : decode cX10_terms 112 = .ok (.invokevirtual 183, 3) := by decide +kernel
theorem dX10_terms_115 : decode cX10_terms 115 = .ok (.iinc 5 1, 3) := by decide +kernel
theorem dX10_terms_118 : decode cX10_terms 118 = .ok (.iinc 6 1, 3) := by decide +kernel
theorem dX10_terms_121 : decode cX10_terms 121 = .ok (.goto (-83), 3) := by decide +kernel
theorem dX10_terms_124 : decode cX10_terms 124 = .ok (.aload_n 0, 1) := by decide +kernel
theorem dX10_terms_125 : decode cX10_terms 125 = .ok (.invokevirtual 217, 3) := by decide +kernel
theorem dX10_terms_128 : decode cX10_terms 128 = .ok (.iload 5, 2) := by decide +kernel
theorem dX10_terms_130 : decode cX10_terms 130 = .ok (.ireturn, 1) := by decide +kernel
theorem dX10_part_0 : decode cX10_part 0 = .ok (.iload_n 1, 1) := by decide +kernel
theorem dX10_part_1 : decode cX10_part 1 = .ok (.ifCond .ne 10, 3) := by decide +kernel
theorem dX10_part_4 : decode cX10_part 4 = .ok (.aload_n 0, 1) := by decide +kernel
theorem dX10_part_5 : decode cX10_part 5 = .ok (.getfield 226, 3) := by decide +kernel
theorem dX10_part_8 : decode cX10_part 8 = .ok (.goto 20, 3) := by decide +kernel
theorem dX10_part_11 : decode cX10_part 11 = .ok (.iload_n 1, 1) := by decide +kernel
theorem dX10_part_12 : decode cX10_part 12 = .ok (.iconst 1, 1) := by decide +kernel
theorem dX10_part_13 : decode cX10_part 13 = .ok (.if_icmp .ne 10, 3) := by decide +kernel
theorem dX10_part_16 : decode cX10_part 16 = .ok (.aload_n 0, 1) := by decide +kernel
theorem dX10_part_17 : decode cX10_part 17 = .ok (.getfield 58, 3) := by decide +kernel
theorem dX10_part_20 : decode cX10_part 20 = .ok (.goto 8, 3) := by decide +kernel
theorem dX10_part_23 : decode cX10_part 23 = .ok (.aload_n 0, 1) := by decide +kernel
theorem dX10_part_24 : decode cX10_part 24 = .ok (.invokevirtual 85, 3) := by decide +kernel
theorem dX10_part_27 : decode cX10_part 27 = .ok (.i2l, 1) := by decide +kernel
theorem dX10_part_28 : decode cX10_part 28 = .ok (.lreturn, 1) := by decide +kernel
theorem dX10_image_0 : decode cX10_image 0 = .ok (.iload_n 1, 1) := by decide +kernel
theorem dX10_image_1 : decode cX10_image 1 = .ok (.iconst 0, 1) := by decide +kernel
theorem dX10_image_2 : decode cX10_image 2 = .ok (.iconst 1, 1) := by decide +kernel
theorem dX10_image_3 : decode cX10_image 3 = .ok (.invokestatic 81, 3) := by decide +kernel
theorem dX10_image_6 : decode cX10_image 6 = .ok (.ifCond .ne 8, 3) := by decide +kernel
theorem dX10_image_9 : decode cX10_image 9 = .ok (.aload_n 0, 1) := by decide +kernel
theorem dX10_image_10 : decode cX10_image 10 = .ok (.invokevirtual 85, 3) := by decide +kernel
theorem dX10_image_13 : decode cX10_image 13 = .ok (.ireturn, 1) := by decide +kernel
theorem dX10_image_14 : decode cX10_image 14 = .ok (.sipush 192, 3) := by decide +kernel
theorem dX10_image_17 : decode cX10_image 17 = .ok (.iload_n 1, 1) := by decide +kernel
theorem dX10_image_18 : decode cX10_image 18 = .ok (.imul, 1) := by decide +kernel
theorem dX10_image_19 : decode cX10_image 19 = .ok (.istore_n 2, 1) := by decide +kernel
theorem dX10_image_20 : decode cX10_image 20 = .ok (.aload_n 0, 1) := by decide +kernel
theorem dX10_image_21 : decode cX10_image 21 = .ok (.getfield 65, 3) := by decide +kernel
theorem dX10_image_24 : decode cX10_image 24 = .ok (.iload_n 1, 1) := by decide +kernel
theorem dX10_image_25 : decode cX10_image 25 = .ok (.iconst 1, 1) := by decide +kernel
theorem dX10_image_26 : decode cX10_image 26 = .ok (.iastore, 1) := by decide +kernel
theorem dX10_image_27 : decode cX10_image 27 = .ok (.aload_n 0, 1) := by decide +kernel
theorem dX10_image_28 : decode cX10_image 28 = .ok (.getfield 62, 3) := by decide +kernel
theorem dX10_image_31 : decode cX10_image 31 = .ok (.iload_n 2, 1) := by decide +kernel
theorem dX10_image_32 : decode cX10_image 32 = .ok (.aload_n 0, 1) := by decide +kernel
theorem dX10_image_33 : decode cX10_image 33 = .ok (.getfield 71, 3) := by decide +kernel
theorem dX10_image_36 : decode cX10_image 36 = .ok (.iastore, 1) := by decide +kernel
theorem dX10_image_37 : decode cX10_image 37 = .ok (.aload_n 0, 1) := by decide +kernel
theorem dX10_image_38 : decode cX10_image 38 = .ok (.getfield 62, 3) := by decide +kernel
theorem dX10_image_41 : decode cX10_image 41 = .ok (.iload_n 2, 1) := by decide +kernel
theorem dX10_image_42 : decode cX10_image 42 = .ok (.iconst 1, 1) := by decide +kernel
theorem dX10_image_43 : decode cX10_image 43 = .ok (.iadd, 1) := by decide +kernel
theorem dX10_image_44 : decode cX10_image 44 = .ok (.aload_n 0, 1) := by decide +kernel
theorem dX10_image_45 : decode cX10_image 45 = .ok (.getfield 75, 3) := by decide +kernel
theorem dX10_image_48 : decode cX10_image 48 = .ok (.iastore, 1) := by decide +kernel
theorem dX10_image_49 : decode cX10_image 49 = .ok (.aload_n 0, 1) := by decide +kernel
theorem dX10_image_50 : decode cX10_image 50 = .ok (.getfield 62, 3) := by decide +kernel
theorem dX10_image_53 : decode cX10_image 53 = .ok (.iload_n 2, 1) := by decide +kernel
theorem dX10_image_54 : decode cX10_image 54 = .ok (.iconst 2, 1) := by decide +kernel
theorem dX10_image_55 : decode cX10_image 55 = .ok (.iadd, 1) := by decide +kernel
theorem dX10_image_56 : decode cX10_image 56 = .ok (.aload_n 0, 1) := by decide +kernel
theorem dX10_image_57 : decode cX10_image 57 = .ok (.getfield 78, 3) := by decide +kernel
theorem dX10_image_60 : decode cX10_image 60 = .ok (.iastore, 1) := by decide +kernel
theorem dX10_image_61 : decode cX10_image 61 = .ok (.iconst 0, 1) := by decide +kernel
theorem dX10_image_62 : decode cX10_image 62 = .ok (.istore_n 3, 1) := by decide +kernel
theorem dX10_image_63 : decode cX10_image 63 = .ok (.iload_n 3, 1) := by decide +kernel
theorem dX10_image_64 : decode cX10_image 64 = .ok (.iconst 5, 1) := by decide +kernel
theorem dX10_image_65 : decode cX10_image 65 = .ok (.if_icmp .ge 59, 3) := by decide +kernel
theorem dX10_image_68 : decode cX10_image 68 = .ok (.aload_n 0, 1) := by decide +kernel
theorem dX10_image_69 : decode cX10_image 69 = .ok (.getfield 62, 3) := by decide +kernel
theorem dX10_image_72 : decode cX10_image 72 = .ok (.iload_n 2, 1) := by decide +kernel
theorem dX10_image_73 : decode cX10_image 73 = .ok (.iconst 3, 1) := by decide +kernel
theorem dX10_image_74 : decode cX10_image 74 = .ok (.iadd, 1) := by decide +kernel
theorem dX10_image_75 : decode cX10_image 75 = .ok (.iload_n 3, 1) := by decide +kernel
theorem dX10_image_76 : decode cX10_image 76 = .ok (.iadd, 1) := by decide +kernel
theorem dX10_image_77 : decode cX10_image 77 = .ok (.aload_n 0, 1) := by decide +kernel
theorem dX10_image_78 : decode cX10_image 78 = .ok (.getfield 13, 3) := by decide +kernel
theorem dX10_image_81 : decode cX10_image 81 = .ok (.iload_n 3, 1) := by decide +kernel
theorem dX10_image_82 : decode cX10_image 82 = .ok (.iaload, 1) := by decide +kernel
theorem dX10_image_83 : decode cX10_image 83 = .ok (.iastore, 1) := by decide +kernel
theorem dX10_image_84 : decode cX10_image 84 = .ok (.aload_n 0, 1) := by decide +kernel
theorem dX10_image_85 : decode cX10_image 85 = .ok (.getfield 62, 3) := by decide +kernel
theorem dX10_image_88 : decode cX10_image 88 = .ok (.iload_n 2, 1) := by decide +kernel
theorem dX10_image_89 : decode cX10_image 89 = .ok (.bipush 8, 2) := by decide +kernel
theorem dX10_image_91 : decode cX10_image 91 = .ok (.iadd, 1) := by decide +kernel
theorem dX10_image_92 : decode cX10_image 92 = .ok (.iload_n 3, 1) := by decide +kernel
theorem dX10_image_93 : decode cX10_image 93 = .ok (.iadd, 1) := by decide +kernel
theorem dX10_image_94 : decode cX10_image 94 = .ok (.aload_n 0, 1) := by decide +kernel
theorem dX10_image_95 : decode cX10_image 95 = .ok (.getfield 16, 3) := by decide +kernel
theorem dX10_image_98 : decode cX10_image 98 = .ok (.iload_n 3, 1) := by decide +kernel
theorem dX10_image_99 : decode cX10_image 99 = .ok (.iaload, 1) := by decide +kernel
theorem dX10_image_100 : decode cX10_image 100 = .ok (.iastore, 1) := by decide +kernel
theorem dX10_image_101 : decode cX10_image 101 = .ok (.aload_n 0, 1) := by decide +kernel
theorem dX10_image_102 : decode cX10_image 102 = .ok (.getfield 62, 3) := by decide +kernel
theorem dX10_image_105 : decode cX10_image 105 = .ok (.iload_n 2, 1) := by decide +kernel
theorem dX10_image_106 : decode cX10_image 106 = .ok (.bipush 13, 2) := by decide +kernel
theorem dX10_image_108 : decode cX10_image 108 = .ok (.iadd, 1) := by decide +kernel
theorem dX10_image_109 : decode cX10_image 109 = .ok (.iload_n 3, 1) := by decide +kernel
theorem dX10_image_110 : decode cX10_image 110 = .ok (.iadd, 1) := by decide +kernel
theorem dX10_image_111 : decode cX10_image 111 = .ok (.aload_n 0, 1) := by decide +kernel
theorem dX10_image_112 : decode cX10_image 112 = .ok (.getfield 19, 3) := by decide +kernel
theorem dX10_image_115 : decode cX10_image 115 = .ok (.iload_n 3, 1) := by decide +kernel
theorem dX10_image_116 : decode cX10_image 116 = .ok (.iaload, 1) := by decide +kernel
theorem dX10_image_117 : decode cX10_image 117 = .ok (.iastore, 1) := by decide +kernel
theorem dX10_image_118 : decode cX10_image 118 = .ok (.iinc 3 1, 3) := by decide +kernel
theorem dX10_image_121 : decode cX10_image 121 = .ok (.goto (-58), 3) := by decide +kernel
theorem dX10_image_124 : decode cX10_image 124 = .ok (.iconst 0, 1) := by decide +kernel
theorem dX10_image_125 : decode cX10_image 125 = .ok (.istore_n 3, 1) := by decide +kernel
theorem dX10_image_126 : decode cX10_image 126 = .ok (.iload_n 3, 1) := by decide +kernel
theorem dX10_image_127 : decode cX10_image 127 = .ok (.bipush 12, 2) := by decide +kernel
theorem dX10_image_129 : decode cX10_image 129 = .ok (.if_icmp .ge 26, 3) := by decide +kernel
theorem dX10_image_132 : decode cX10_image 132 = .ok (.aload_n 0, 1) := by decide +kernel
theorem dX10_image_133 : decode cX10_image 133 = .ok (.getfield 62, 3) := by decide +kernel
theorem dX10_image_136 : decode cX10_image 136 = .ok (.iload_n 2, 1) := by decide +kernel
theorem dX10_image_137 : decode cX10_image 137 = .ok (.bipush 18, 2) := by decide +kernel
theorem dX10_image_139 : decode cX10_image 139 = .ok (.iadd, 1) := by decide +kernel
theorem dX10_image_140 : decode cX10_image 140 = .ok (.iload_n 3, 1) := by decide +kernel
theorem dX10_image_141 : decode cX10_image 141 = .ok (.iadd, 1) := by decide +kernel
theorem dX10_image_142 : decode cX10_image 142 = .ok (.aload_n 0, 1) := by decide +kernel
theorem dX10_image_143 : decode cX10_image 143 = .ok (.getfield 22, 3) := by decide +kernel
theorem dX10_image_146 : decode cX10_image 146 = .ok (.iload_n 3, 1) := by decide +kernel
theorem dX10_image_147 : decode cX10_image 147 = .ok (.iaload, 1) := by decide +kernel
theorem dX10_image_148 : decode cX10_image 148 = .ok (.iastore, 1) := by decide +kernel
theorem dX10_image_149 : decode cX10_image 149 = .ok (.iinc 3 1, 3) := by decide +kernel
theorem dX10_image_152 : decode cX10_image 152 = .ok (.goto (-26), 3) := by decide +kernel
theorem dX10_image_155 : decode cX10_image 155 = .ok (.iconst 0, 1) := by decide +kernel
theorem dX10_image_156 : decode cX10_image 156 = .ok (.istore_n 3, 1) := by decide +kernel
theorem dX10_image_157 : decode cX10_image 157 = .ok (.iload_n 3, 1) := by decide +kernel
theorem dX10_image_158 : decode cX10_image 158 = .ok (.bipush 6, 2) := by decide +kernel
theorem dX10_image_160 : decode cX10_image 160 = .ok (.if_icmp .ge 77, 3) := by decide +kernel
theorem dX10_image_163 : decode cX10_image 163 = .ok (.aload_n 0, 1) := by decide +kernel
theorem dX10_image_164 : decode cX10_image 164 = .ok (.getfield 62, 3) := by decide +kernel
theorem dX10_image_167 : decode cX10_image 167 = .ok (.iload_n 2, 1) := by decide +kernel
theorem dX10_image_168 : decode cX10_image 168 = .ok (.bipush 30, 2) := by decide +kernel
theorem dX10_image_170 : decode cX10_image 170 = .ok (.iadd, 1) := by decide +kernel
theorem dX10_image_171 : decode cX10_image 171 = .ok (.iload_n 3, 1) := by decide +kernel
theorem dX10_image_172 : decode cX10_image 172 = .ok (.iadd, 1) := by decide +kernel
theorem dX10_image_173 : decode cX10_image 173 = .ok (.aload_n 0, 1) := by decide +kernel
theorem dX10_image_174 : decode cX10_image 174 = .ok (.getfield 25, 3) := by decide +kernel
theorem dX10_image_177 : decode cX10_image 177 = .ok (.iload_n 3, 1) := by decide +kernel
theorem dX10_image_178 : decode cX10_image 178 = .ok (.iaload, 1) := by decide +kernel
theorem dX10_image_179 : decode cX10_image 179 = .ok (.iastore, 1) := by decide +kernel
theorem dX10_image_180 : decode cX10_image 180 = .ok (.aload_n 0, 1) := by decide +kernel
theorem dX10_image_181 : decode cX10_image 181 = .ok (.getfield 62, 3) := by decide +kernel
theorem dX10_image_184 : decode cX10_image 184 = .ok (.iload_n 2, 1) := by decide +kernel
theorem dX10_image_185 : decode cX10_image 185 = .ok (.bipush 36, 2) := by decide +kernel
theorem dX10_image_187 : decode cX10_image 187 = .ok (.iadd, 1) := by decide +kernel
theorem dX10_image_188 : decode cX10_image 188 = .ok (.iload_n 3, 1) := by decide +kernel
theorem dX10_image_189 : decode cX10_image 189 = .ok (.iadd, 1) := by decide +kernel
theorem dX10_image_190 : decode cX10_image 190 = .ok (.aload_n 0, 1) := by decide +kernel
theorem dX10_image_191 : decode cX10_image 191 = .ok (.getfield 28, 3) := by decide +kernel
theorem dX10_image_194 : decode cX10_image 194 = .ok (.iload_n 3, 1) := by decide +kernel
theorem dX10_image_195 : decode cX10_image 195 = .ok (.iaload, 1) := by decide +kernel
theorem dX10_image_196 : decode cX10_image 196 = .ok (.iastore, 1) := by decide +kernel
theorem dX10_image_197 : decode cX10_image 197 = .ok (.aload_n 0, 1) := by decide +kernel
theorem dX10_image_198 : decode cX10_image 198 = .ok (.getfield 62, 3) := by decide +kernel
theorem dX10_image_201 : decode cX10_image 201 = .ok (.iload_n 2, 1) := by decide +kernel
theorem dX10_image_202 : decode cX10_image 202 = .ok (.bipush 42, 2) := by decide +kernel
theorem dX10_image_204 : decode cX10_image 204 = .ok (.iadd, 1) := by decide +kernel
theorem dX10_image_205 : decode cX10_image 205 = .ok (.iload_n 3, 1) := by decide +kernel
theorem dX10_image_206 : decode cX10_image 206 = .ok (.iadd, 1) := by decide +kernel
theorem dX10_image_207 : decode cX10_image 207 = .ok (.aload_n 0, 1) := by decide +kernel
theorem dX10_image_208 : decode cX10_image 208 = .ok (.getfield 31, 3) := by decide +kernel
theorem dX10_image_211 : decode cX10_image 211 = .ok (.iload_n 3, 1) := by decide +kernel
theorem dX10_image_212 : decode cX10_image 212 = .ok (.iaload, 1) := by decide +kernel
theorem dX10_image_213 : decode cX10_image 213 = .ok (.iastore, 1) := by decide +kernel
theorem dX10_image_214 : decode cX10_image 214 = .ok (.aload_n 0, 1) := by decide +kernel
theorem dX10_image_215 : decode cX10_image 215 = .ok (.getfield 62, 3) := by decide +kernel
theorem dX10_image_218 : decode cX10_image 218 = .ok (.iload_n 2, 1) := by decide +kernel
theorem dX10_image_219 : decode cX10_image 219 = .ok (.bipush 48, 2) := by decide +kernel
theorem dX10_image_221 : decode cX10_image 221 = .ok (.iadd, 1) := by decide +kernel
theorem dX10_image_222 : decode cX10_image 222 = .ok (.iload_n 3, 1) := by decide +kernel
theorem dX10_image_223 : decode cX10_image 223 = .ok (.iadd, 1) := by decide +kernel
theorem dX10_image_224 : decode cX10_image 224 = .ok (.aload_n 0, 1) := by decide +kernel
theorem dX10_image_225 : decode cX10_image 225 = .ok (.getfield 34, 3) := by decide +kernel
theorem dX10_image_228 : decode cX10_image 228 = .ok (.iload_n 3, 1) := by decide +kernel
theorem dX10_image_229 : decode cX10_image 229 = .ok (.iaload, 1) := by decide +kernel
theorem dX10_image_230 : decode cX10_image 230 = .ok (.iastore, 1) := by decide +kernel
theorem dX10_image_231 : decode cX10_image 231 = .ok (.iinc 3 1, 3) := by decide +kernel
theorem dX10_image_234 : decode cX10_image 234 = .ok (.goto (-77), 3) := by decide +kernel
theorem dX10_image_237 : decode cX10_image 237 = .ok (.iconst 0, 1) := by decide +kernel
theorem dX10_image_238 : decode cX10_image 238 = .ok (.istore_n 3, 1) := by decide +kernel
theorem dX10_image_239 : decode cX10_image 239 = .ok (.iload_n 3, 1) := by decide +kernel
theorem dX10_image_240 : decode cX10_image 240 = .ok (.sipush 136, 3) := by decide +kernel
theorem dX10_image_243 : decode cX10_image 243 = .ok (.if_icmp .ge 26, 3) := by decide +kernel
theorem dX10_image_246 : decode cX10_image 246 = .ok (.aload_n 0, 1) := by decide +kernel
theorem dX10_image_247 : decode cX10_image 247 = .ok (.getfield 62, 3) := by decide +kernel
theorem dX10_image_250 : decode cX10_image 250 = .ok (.iload_n 2, 1) := by decide +kernel
theorem dX10_image_251 : decode cX10_image 251 = .ok (.bipush 54, 2) := by decide +kernel
theorem dX10_image_253 : decode cX10_image 253 = .ok (.iadd, 1) := by decide +kernel
theorem dX10_image_254 : decode cX10_image 254 = .ok (.iload_n 3, 1) := by decide +kernel
theorem dX10_image_255 : decode cX10_image 255 = .ok (.iadd, 1) := by decide +kernel
theorem dX10_image_256 : decode cX10_image 256 = .ok (.aload_n 0, 1) := by decide +kernel
theorem dX10_image_257 : decode cX10_image 257 = .ok (.getfield 46, 3) := by decide +kernel
theorem dX10_image_260 : decode cX10_image 260 = .ok (.iload_n 3, 1) := by decide +kernel
theorem dX10_image_261 : decode cX10_image 261 = .ok (.iaload, 1) := by decide +kernel
theorem dX10_image_262 : decode cX10_image 262 = .ok (.iastore, 1) := by decide +kernel
theorem dX10_image_263 : decode cX10_image 263 = .ok (.iinc 3 1, 3) := by decide +kernel
theorem dX10_image_266 : decode cX10_image 266 = .ok (.goto (-27), 3) := by decide +kernel
theorem dX10_image_269 : decode cX10_image 269 = .ok (.iconst 1, 1) := by decide +kernel
theorem dX10_image_270 : decode cX10_image 270 = .ok (.ireturn, 1) := by decide +kernel
theorem dX10_from_0 : decode cX10_from 0 = .ok (.iload_n 1, 1) := by decide +kernel
theorem dX10_from_1 : decode cX10_from 1 = .ok (.iconst 0, 1) := by decide +kernel
theorem dX10_from_2 : decode cX10_from 2 = .ok (.iconst 1, 1) := by decide +kernel
theorem dX10_from_3 : decode cX10_from 3 = .ok (.invokestatic 81, 3) := by decide +kernel
theorem dX10_from_6 : decode cX10_from 6 = .ok (.ifCond .ne 8, 3) := by decide +kernel
theorem dX10_from_9 : decode cX10_from 9 = .ok (.aload_n 0, 1) := by decide +kernel
theorem dX10_from_10 : decode cX10_from 10 = .ok (.invokevirtual 85, 3) := by decide +kernel
theorem dX10_from_13 : decode cX10_from 13 = .ok (.ireturn, 1) := by decide +kernel
theorem dX10_from_14 : decode cX10_from 14 = .ok (.aload_n 0, 1) := by decide +kernel
theorem dX10_from_15 : decode cX10_from 15 = .ok (.getfield 65, 3) := by decide +kernel
theorem dX10_from_18 : decode cX10_from 18 = .ok (.iload_n 1, 1) := by decide +kernel
theorem dX10_from_19 : decode cX10_from 19 = .ok (.iaload, 1) := by decide +kernel
theorem dX10_from_20 : decode cX10_from 20 = .ok (.ifCond .ne 8, 3) := by decide +kernel
theorem dX10_from_23 : decode cX10_from 23 = .ok (.aload_n 0, 1) := by decide +kernel
theorem dX10_from_24 : decode cX10_from 24 = .ok (.invokevirtual 180, 3) := by decide +kernel
theorem dX10_from_27 : decode cX10_from 27 = .ok (.ireturn, 1) := by decide +kernel
theorem dX10_from_28 : decode cX10_from 28 = .ok (.sipush 192, 3) := by decide +kernel
theorem dX10_from_31 : decode cX10_from 31 = .ok (.iload_n 1, 1) := by decide +kernel
theorem dX10_from_32 : decode cX10_from 32 = .ok (.imul, 1) := by decide +kernel
theorem dX10_from_33 : decode cX10_from 33 = .ok (.istore_n 2, 1) := by decide +kernel
theorem dX10_from_34 : decode cX10_from 34 = .ok (.aload_n 0, 1) := by decide +kernel
theorem dX10_from_35 : decode cX10_from 35 = .ok (.aload_n 0, 1) := by decide +kernel
theorem dX10_from_36 : decode cX10_from 36 = .ok (.getfield 62, 3) := by decide +kernel
theorem dX10_from_39 : decode cX10_from 39 = .ok (.iload_n 2, 1) := by decide +kernel
theorem dX10_from_40 : decode cX10_from 40 = .ok (.iaload, 1) := by decide +kernel
theorem dX10_from_41 : decode cX10_from 41 = .ok (.putfield 71, 3) := by decide +kernel
theorem dX10_from_44 : decode cX10_from 44 = .ok (.aload_n 0, 1) := by decide +kernel
theorem dX10_from_45 : decode cX10_from 45 = .ok (.aload_n 0, 1) := by decide +kernel
theorem dX10_from_46 : decode cX10_from 46 = .ok (.getfield 62, 3) := by decide +kernel
theorem dX10_from_49 : decode cX10_from 49 = .ok (.iload_n 2, 1) := by decide +kernel
theorem dX10_from_50 : decode cX10_from 50 = .ok (.iconst 1, 1) := by decide +kernel
theorem dX10_from_51 : decode cX10_from 51 = .ok (.iadd, 1) := by decide +kernel
theorem dX10_from_52 : decode cX10_from 52 = .ok (.iaload, 1) := by decide +kernel
theorem dX10_from_53 : decode cX10_from 53 = .ok (.putfield 75, 3) := by decide +kernel
theorem dX10_from_56 : decode cX10_from 56 = .ok (.aload_n 0, 1) := by decide +kernel
theorem dX10_from_57 : decode cX10_from 57 = .ok (.aload_n 0, 1) := by decide +kernel
theorem dX10_from_58 : decode cX10_from 58 = .ok (.getfield 62, 3) := by decide +kernel
theorem dX10_from_61 : decode cX10_from 61 = .ok (.iload_n 2, 1) := by decide +kernel
theorem dX10_from_62 : decode cX10_from 62 = .ok (.iconst 2, 1) := by decide +kernel
theorem dX10_from_63 : decode cX10_from 63 = .ok (.iadd, 1) := by decide +kernel
theorem dX10_from_64 : decode cX10_from 64 = .ok (.iaload, 1) := by decide +kernel
theorem dX10_from_65 : decode cX10_from 65 = .ok (.putfield 78, 3) := by decide +kernel
theorem dX10_from_68 : decode cX10_from 68 = .ok (.iconst 0, 1) := by decide +kernel
theorem dX10_from_69 : decode cX10_from 69 = .ok (.istore_n 3, 1) := by decide +kernel
theorem dX10_from_70 : decode cX10_from 70 = .ok (.iload_n 3, 1) := by decide +kernel
theorem dX10_from_71 : decode cX10_from 71 = .ok (.iconst 5, 1) := by decide +kernel
theorem dX10_from_72 : decode cX10_from 72 = .ok (.if_icmp .ge 59, 3) := by decide +kernel
theorem dX10_from_75 : decode cX10_from 75 = .ok (.aload_n 0, 1) := by decide +kernel
theorem dX10_from_76 : decode cX10_from 76 = .ok (.getfield 13, 3) := by decide +kernel
theorem dX10_from_79 : decode cX10_from 79 = .ok (.iload_n 3, 1) := by decide +kernel
theorem dX10_from_80 : decode cX10_from 80 = .ok (.aload_n 0, 1) := by decide +kernel
theorem dX10_from_81 : decode cX10_from 81 = .ok (.getfield 62, 3) := by decide +kernel
theorem dX10_from_84 : decode cX10_from 84 = .ok (.iload_n 2, 1) := by decide +kernel
theorem dX10_from_85 : decode cX10_from 85 = .ok (.iconst 3, 1) := by decide +kernel
theorem dX10_from_86 : decode cX10_from 86 = .ok (.iadd, 1) := by decide +kernel
theorem dX10_from_87 : decode cX10_from 87 = .ok (.iload_n 3, 1) := by decide +kernel
theorem dX10_from_88 : decode cX10_from 88 = .ok (.iadd, 1) := by decide +kernel
theorem dX10_from_89 : decode cX10_from 89 = .ok (.iaload, 1) := by decide +kernel
theorem dX10_from_90 : decode cX10_from 90 = .ok (.iastore, 1) := by decide +kernel
theorem dX10_from_91 : decode cX10_from 91 = .ok (.aload_n 0, 1) := by decide +kernel
theorem dX10_from_92 : decode cX10_from 92 = .ok (.getfield 16, 3) := by decide +kernel
theorem dX10_from_95 : decode cX10_from 95 = .ok (.iload_n 3, 1) := by decide +kernel
theorem dX10_from_96 : decode cX10_from 96 = .ok (.aload_n 0, 1) := by decide +kernel
theorem dX10_from_97 : decode cX10_from 97 = .ok (.getfield 62, 3) := by decide +kernel
theorem dX10_from_100 : decode cX10_from 100 = .ok (.iload_n 2, 1) := by decide +kernel
theorem dX10_from_101 : decode cX10_from 101 = .ok (.bipush 8, 2) := by decide +kernel
theorem dX10_from_103 : decode cX10_from 103 = .ok (.iadd, 1) := by decide +kernel
theorem dX10_from_104 : decode cX10_from 104 = .ok (.iload_n 3, 1) := by decide +kernel
theorem dX10_from_105 : decode cX10_from 105 = .ok (.iadd, 1) := by decide +kernel
theorem dX10_from_106 : decode cX10_from 106 = .ok (.iaload, 1) := by decide +kernel
theorem dX10_from_107 : decode cX10_from 107 = .ok (.iastore, 1) := by decide +kernel
theorem dX10_from_108 : decode cX10_from 108 = .ok (.aload_n 0, 1) := by decide +kernel
theorem dX10_from_109 : decode cX10_from 109 = .ok (.getfield 19, 3) := by decide +kernel
theorem dX10_from_112 : decode cX10_from 112 = .ok (.iload_n 3, 1) := by decide +kernel
theorem dX10_from_113 : decode cX10_from 113 = .ok (.aload_n 0, 1) := by decide +kernel
theorem dX10_from_114 : decode cX10_from 114 = .ok (.getfield 62, 3) := by decide +kernel
theorem dX10_from_117 : decode cX10_from 117 = .ok (.iload_n 2, 1) := by decide +kernel
theorem dX10_from_118 : decode cX10_from 118 = .ok (.bipush 13, 2) := by decide +kernel
theorem dX10_from_120 : decode cX10_from 120 = .ok (.iadd, 1) := by decide +kernel
theorem dX10_from_121 : decode cX10_from 121 = .ok (.iload_n 3, 1) := by decide +kernel
theorem dX10_from_122 : decode cX10_from 122 = .ok (.iadd, 1) := by decide +kernel
theorem dX10_from_123 : decode cX10_from 123 = .ok (.iaload, 1) := by decide +kernel
theorem dX10_from_124 : decode cX10_from 124 = .ok (.iastore, 1) := by decide +kernel
theorem dX10_from_125 : decode cX10_from 125 = .ok (.iinc 3 1, 3) := by decide +kernel
theorem dX10_from_128 : decode cX10_from 128 = .ok (.goto (-58), 3) := by decide +kernel
theorem dX10_from_131 : decode cX10_from 131 = .ok (.iconst 0, 1) := by decide +kernel
theorem dX10_from_132 : decode cX10_from 132 = .ok (.istore_n 3, 1) := by decide +kernel
theorem dX10_from_133 : decode cX10_from 133 = .ok (.iload_n 3, 1) := by decide +kernel
theorem dX10_from_134 : decode cX10_from 134 = .ok (.bipush 12, 2) := by decide +kernel
theorem dX10_from_136 : decode cX10_from 136 = .ok (.if_icmp .ge 26, 3) := by decide +kernel
theorem dX10_from_139 : decode cX10_from 139 = .ok (.aload_n 0, 1) := by decide +kernel
theorem dX10_from_140 : decode cX10_from 140 = .ok (.getfield 22, 3) := by decide +kernel
theorem dX10_from_143 : decode cX10_from 143 = .ok (.iload_n 3, 1) := by decide +kernel
theorem dX10_from_144 : decode cX10_from 144 = .ok (.aload_n 0, 1) := by decide +kernel
theorem dX10_from_145 : decode cX10_from 145 = .ok (.getfield 62, 3) := by decide +kernel
theorem dX10_from_148 : decode cX10_from 148 = .ok (.iload_n 2, 1) := by decide +kernel
theorem dX10_from_149 : decode cX10_from 149 = .ok (.bipush 18, 2) := by decide +kernel
theorem dX10_from_151 : decode cX10_from 151 = .ok (.iadd, 1) := by decide +kernel
theorem dX10_from_152 : decode cX10_from 152 = .ok (.iload_n 3, 1) := by decide +kernel
theorem dX10_from_153 : decode cX10_from 153 = .ok (.iadd, 1) := by decide +kernel
theorem dX10_from_154 : decode cX10_from 154 = .ok (.iaload, 1) := by decide +kernel
theorem dX10_from_155 : decode cX10_from 155 = .ok (.iastore, 1) := by decide +kernel
theorem dX10_from_156 : decode cX10_from 156 = .ok (.iinc 3 1, 3) := by decide +kernel
theorem dX10_from_159 : decode cX10_from 159 = .ok (.goto (-26), 3) := by decide +kernel
theorem dX10_from_162 : decode cX10_from 162 = .ok (.iconst 0, 1) := by decide +kernel
theorem dX10_from_163 : decode cX10_from 163 = .ok (.istore_n 3, 1) := by decide +kernel
theorem dX10_from_164 : decode cX10_from 164 = .ok (.iload_n 3, 1) := by decide +kernel
theorem dX10_from_165 : decode cX10_from 165 = .ok (.bipush 6, 2) := by decide +kernel
theorem dX10_from_167 : decode cX10_from 167 = .ok (.if_icmp .ge 77, 3) := by decide +kernel
theorem dX10_from_170 : decode cX10_from 170 = .ok (.aload_n 0, 1) := by decide +kernel
theorem dX10_from_171 : decode cX10_from 171 = .ok (.getfield 25, 3) := by decide +kernel
theorem dX10_from_174 : decode cX10_from 174 = .ok (.iload_n 3, 1) := by decide +kernel
theorem dX10_from_175 : decode cX10_from 175 = .ok (.aload_n 0, 1) := by decide +kernel
theorem dX10_from_176 : decode cX10_from 176 = .ok (.getfield 62, 3) := by decide +kernel
theorem dX10_from_179 : decode cX10_from 179 = .ok (.iload_n 2, 1) := by decide +kernel
theorem dX10_from_180 : decode cX10_from 180 = .ok (.bipush 30, 2) := by decide +kernel
theorem dX10_from_182 : decode cX10_from 182 = .ok (.iadd, 1) := by decide +kernel
theorem dX10_from_183 : decode cX10_from 183 = .ok (.iload_n 3, 1) := by decide +kernel
theorem dX10_from_184 : decode cX10_from 184 = .ok (.iadd, 1) := by decide +kernel
theorem dX10_from_185 : decode cX10_from 185 = .ok (.iaload, 1) := by decide +kernel
theorem dX10_from_186 : decode cX10_from 186 = .ok (.iastore, 1) := by decide +kernel
theorem dX10_from_187 : decode cX10_from 187 = .ok (.aload_n 0, 1) := by decide +kernel
theorem dX10_from_188 : decode cX10_from 188 = .ok (.getfield 28, 3) := by decide +kernel
theorem dX10_from_191 : decode cX10_from 191 = .ok (.iload_n 3, 1) := by decide +kernel
theorem dX10_from_192 : decode cX10_from 192 = .ok (.aload_n 0, 1) := by decide +kernel
theorem dX10_from_193 : decode cX10_from 193 = .ok (.getfield 62, 3) := by decide +kernel
theorem dX10_from_196 : decode cX10_from 196 = .ok (.iload_n 2, 1) := by decide +kernel
theorem dX10_from_197 : decode cX10_from 197 = .ok (.bipush 36, 2) := by decide +kernel
theorem dX10_from_199 : decode cX10_from 199 = .ok (.iadd, 1) := by decide +kernel
theorem dX10_from_200 : decode cX10_from 200 = .ok (.iload_n 3, 1) := by decide +kernel
theorem dX10_from_201 : decode cX10_from 201 = .ok (.iadd, 1) := by decide +kernel
theorem dX10_from_202 : decode cX10_from 202 = .ok (.iaload, 1) := by decide +kernel
theorem dX10_from_203 : decode cX10_from 203 = .ok (.iastore, 1) := by decide +kernel
theorem dX10_from_204 : decode cX10_from 204 = .ok (.aload_n 0, 1) := by decide +kernel
theorem dX10_from_205 : decode cX10_from 205 = .ok (.getfield 31, 3) := by decide +kernel
theorem dX10_from_208 : decode cX10_from 208 = .ok (.iload_n 3, 1) := by decide +kernel
theorem dX10_from_209 : decode cX10_from 209 = .ok (.aload_n 0, 1) := by decide +kernel
theorem dX10_from_210 : decode cX10_from 210 = .ok (.getfield 62, 3) := by decide +kernel
theorem dX10_from_213 : decode cX10_from 213 = .ok (.iload_n 2, 1) := by decide +kernel
theorem dX10_from_214 : decode cX10_from 214 = .ok (.bipush 42, 2) := by decide +kernel
theorem dX10_from_216 : decode cX10_from 216 = .ok (.iadd, 1) := by decide +kernel
theorem dX10_from_217 : decode cX10_from 217 = .ok (.iload_n 3, 1) := by decide +kernel
theorem dX10_from_218 : decode cX10_from 218 = .ok (.iadd, 1) := by decide +kernel
theorem dX10_from_219 : decode cX10_from 219 = .ok (.iaload, 1) := by decide +kernel
theorem dX10_from_220 : decode cX10_from 220 = .ok (.iastore, 1) := by decide +kernel
theorem dX10_from_221 : decode cX10_from 221 = .ok (.aload_n 0, 1) := by decide +kernel
theorem dX10_from_222 : decode cX10_from 222 = .ok (.getfield 34, 3) := by decide +kernel
theorem dX10_from_225 : decode cX10_from 225 = .ok (.iload_n 3, 1) := by decide +kernel
theorem dX10_from_226 : decode cX10_from 226 = .ok (.aload_n 0, 1) := by decide +kernel
theorem dX10_from_227 : decode cX10_from 227 = .ok (.getfield 62, 3) := by decide +kernel
theorem dX10_from_230 : decode cX10_from 230 = .ok (.iload_n 2, 1) := by decide +kernel
theorem dX10_from_231 : decode cX10_from 231 = .ok (.bipush 48, 2) := by decide +kernel
theorem dX10_from_233 : decode cX10_from 233 = .ok (.iadd, 1) := by decide +kernel
theorem dX10_from_234 : decode cX10_from 234 = .ok (.iload_n 3, 1) := by decide +kernel
theorem dX10_from_235 : decode cX10_from 235 = .ok (.iadd, 1) := by decide +kernel
theorem dX10_from_236 : decode cX10_from 236 = .ok (.iaload, 1) := by decide +kernel
theorem dX10_from_237 : decode cX10_from 237 = .ok (.iastore, 1) := by decide +kernel
theorem dX10_from_238 : decode cX10_from 238 = .ok (.iinc 3 1, 3) := by decide +kernel
theorem dX10_from_241 : decode cX10_from 241 = .ok (.goto (-77), 3) := by decide +kernel
theorem dX10_from_244 : decode cX10_from 244 = .ok (.iconst 0, 1) := by decide +kernel
theorem dX10_from_245 : decode cX10_from 245 = .ok (.istore_n 3, 1) := by decide +kernel
theorem dX10_from_246 : decode cX10_from 246 = .ok (.iload_n 3, 1) := by decide +kernel
theorem dX10_from_247 : decode cX10_from 247 = .ok (.sipush 136, 3) := by decide +kernel
theorem dX10_from_250 : decode cX10_from 250 = .ok (.if_icmp .ge 26, 3) := by decide +kernel
theorem dX10_from_253 : decode cX10_from 253 = .ok (.aload_n 0, 1) := by decide +kernel
theorem dX10_from_254 : decode cX10_from 254 = .ok (.getfield 46, 3) := by decide +kernel
theorem dX10_from_257 : decode cX10_from 257 = .ok (.iload_n 3, 1) := by decide +kernel
theorem dX10_from_258 : decode cX10_from 258 = .ok (.aload_n 0, 1) := by decide +kernel
theorem dX10_from_259 : decode cX10_from 259 = .ok (.getfield 62, 3) := by decide +kernel
theorem dX10_from_262 : decode cX10_from 262 = .ok (.iload_n 2, 1) := by decide +kernel
theorem dX10_from_263 : decode cX10_from 263 = .ok (.bipush 54, 2) := by decide +kernel
theorem dX10_from_265 : decode cX10_from 265 = .ok (.iadd, 1) := by decide +kernel
theorem dX10_from_266 : decode cX10_from 266 = .ok (.iload_n 3, 1) := by decide +kernel
theorem dX10_from_267 : decode cX10_from 267 = .ok (.iadd, 1) := by decide +kernel
theorem dX10_from_268 : decode cX10_from 268 = .ok (.iaload, 1) := by decide +kernel
theorem dX10_from_269 : decode cX10_from 269 = .ok (.iastore, 1) := by decide +kernel
theorem dX10_from_270 : decode cX10_from 270 = .ok (.iinc 3 1, 3) := by decide +kernel
theorem dX10_from_273 : decode cX10_from 273 = .ok (.goto (-27), 3) := by decide +kernel
theorem dX10_from_276 : decode cX10_from 276 = .ok (.iconst 1, 1) := by decide +kernel
theorem dX10_from_277 : decode cX10_from 277 = .ok (.ireturn, 1) := by decide +kernel
theorem dX10_status_0 : decode cX10_status 0 = .ok (.iload_n 1, 1) := by decide +kernel
theorem dX10_status_1 : decode cX10_status 1 = .ok (.iconst 0, 1) := by decide +kernel
theorem dX10_status_2 : decode cX10_status 2 = .ok (.iconst 2, 1) := by decide +kernel
theorem dX10_status_3 : decode cX10_status 3 = .ok (.invokestatic 81, 3) := by decide +kernel
theorem dX10_status_6 : decode cX10_status 6 = .ok (.ifCond .ne 15, 3) := by decide +kernel
theorem dX10_status_9 : decode cX10_status 9 = .ok (.aload_n 0, 1) := by decide +kernel
theorem dX10_status_10 : decode cX10_status 10 = .ok (.getfield 1, 3) := by decide +kernel
theorem dX10_status_13 : decode cX10_status 13 = .ok (.iconst 0, 1) := by decide +kernel
theorem dX10_status_14 : decode cX10_status 14 = .ok (.dup2, 1) := by decide +kernel
theorem dX10_status_15 : decode cX10_status 15 = .ok (.iaload, 1) := by decide +kernel
theorem dX10_status_16 : decode cX10_status 16 = .ok (.iconst 1, 1) := by decide +kernel
theorem dX10_status_17 : decode cX10_status 17 = .ok (.iadd, 1) := by decide +kernel
theorem dX10_status_18 : decode cX10_status 18 = .ok (.iastore, 1) := by decide +kernel
theorem dX10_status_19 : decode cX10_status 19 = .ok (.iconst (-1), 1) := by decide +kernel
theorem dX10_status_20 : decode cX10_status 20 = .ok (.ireturn, 1) := by decide +kernel
theorem dX10_status_21 : decode cX10_status 21 = .ok (.aload_n 0, 1) := by decide +kernel
theorem dX10_status_22 : decode cX10_status 22 = .ok (.getfield 1, 3) := by decide +kernel
theorem dX10_status_25 : decode cX10_status 25 = .ok (.iload_n 1, 1) := by decide +kernel
theorem dX10_status_26 : decode cX10_status 26 = .ok (.iaload, 1) := by decide +kernel
theorem dX10_status_27 : decode cX10_status 27 = .ok (.ireturn, 1) := by decide +kernel
theorem dX10_allJam_0 : decode cX10_allJam 0 = .ok (.iconst 0, 1) := by decide +kernel
theorem dX10_allJam_1 : decode cX10_allJam 1 = .ok (.istore_n 1, 1) := by decide +kernel
theorem dX10_allJam_2 : decode cX10_allJam 2 = .ok (.iconst 0, 1) := by decide +kernel
theorem dX10_allJam_3 : decode cX10_allJam 3 = .ok (.istore_n 2, 1) := by decide +kernel
theorem dX10_allJam_4 : decode cX10_allJam 4 = .ok (.iload_n 2, 1) := by decide +kernel
theorem dX10_allJam_5 : decode cX10_allJam 5 = .ok (.aload_n 0, 1) := by decide +kernel
theorem dX10_allJam_6 : decode cX10_allJam 6 = .ok (.getfield 71, 3) := by decide +kernel
theorem dX10_allJam_9 : decode cX10_allJam 9 = .ok (.if_icmp .ge 18, 3) := by decide +kernel
theorem dX10_allJam_12 : decode cX10_allJam 12 = .ok (.iload_n 1, 1) := by decide +kernel
theorem dX10_allJam_13 : decode cX10_allJam 13 = .ok (.aload_n 0, 1) := by decide +kernel
theorem dX10_allJam_14 : decode cX10_allJam 14 = .ok (.getfield 19, 3) := by decide +kernel
theorem dX10_allJam_17 : decode cX10_allJam 17 = .ok (.iload_n 2, 1) := by decide +kernel
theorem dX10_allJam_18 : decode cX10_allJam 18 = .ok (.iaload, 1) := by decide +kernel
theorem dX10_allJam_19 : decode cX10_allJam 19 = .ok (.iadd, 1) := by decide +kernel
theorem dX10_allJam_20 : decode cX10_allJam 20 = .ok (.istore_n 1, 1) := by decide +kernel
theorem dX10_allJam_21 : decode cX10_allJam 21 = .ok (.iinc 2 1, 3) := by decide +kernel
theorem dX10_allJam_24 : decode cX10_allJam 24 = .ok (.goto (-20), 3) := by decide +kernel
theorem dX10_allJam_27 : decode cX10_allJam 27 = .ok (.iload_n 1, 1) := by decide +kernel
theorem dX10_allJam_28 : decode cX10_allJam 28 = .ok (.ireturn, 1) := by decide +kernel
theorem dX10_countOf_0 : decode cX10_countOf 0 = .ok (.iload_n 1, 1) := by decide +kernel
theorem dX10_countOf_1 : decode cX10_countOf 1 = .ok (.tableswitch 72 0 5 #[39, 44, 49, 54, 62, 67], 39) := by decide +kernel
theorem dX10_countOf_40 : decode cX10_countOf 40 = .ok (.aload_n 0, 1) := by decide +kernel
theorem dX10_countOf_41 : decode cX10_countOf 41 = .ok (.getfield 71, 3) := by decide +kernel
theorem dX10_countOf_44 : decode cX10_countOf 44 = .ok (.ireturn, 1) := by decide +kernel
theorem dX10_countOf_45 : decode cX10_countOf 45 = .ok (.aload_n 0, 1) := by decide +kernel
theorem dX10_countOf_46 : decode cX10_countOf 46 = .ok (.invokevirtual 190, 3) := by decide +kernel
theorem dX10_countOf_49 : decode cX10_countOf 49 = .ok (.ireturn, 1) := by decide +kernel
theorem dX10_countOf_50 : decode cX10_countOf 50 = .ok (.aload_n 0, 1) := by decide +kernel
theorem dX10_countOf_51 : decode cX10_countOf 51 = .ok (.invokevirtual 246, 3) := by decide +kernel
theorem dX10_countOf_54 : decode cX10_countOf 54 = .ok (.ireturn, 1) := by decide +kernel
theorem dX10_countOf_55 : decode cX10_countOf 55 = .ok (.aload_n 0, 1) := by decide +kernel
theorem dX10_countOf_56 : decode cX10_countOf 56 = .ok (.invokevirtual 249, 3) := by decide +kernel
theorem dX10_countOf_59 : decode cX10_countOf 59 = .ok (.invokestatic 187, 3) := by decide +kernel
theorem dX10_countOf_62 : decode cX10_countOf 62 = .ok (.ireturn, 1) := by decide +kernel
theorem dX10_countOf_63 : decode cX10_countOf 63 = .ok (.aload_n 0, 1) := by decide +kernel
theorem dX10_countOf_64 : decode cX10_countOf 64 = .ok (.getfield 75, 3) := by decide +kernel
theorem dX10_countOf_67 : decode cX10_countOf 67 = .ok (.ireturn, 1) := by decide +kernel
theorem dX10_countOf_68 : decode cX10_countOf 68 = .ok (.aload_n 0, 1) := by decide +kernel
theorem dX10_countOf_69 : decode cX10_countOf 69 = .ok (.getfield 78, 3) := by decide +kernel
theorem dX10_countOf_72 : decode cX10_countOf 72 = .ok (.ireturn, 1) := by decide +kernel
theorem dX10_countOf_73 : decode cX10_countOf 73 = .ok (.aload_n 0, 1) := by decide +kernel
theorem dX10_countOf_74 : decode cX10_countOf 74 = .ok (.getfield 96, 3) := by decide +kernel
theorem dX10_countOf_77 : decode cX10_countOf 77 = .ok (.ireturn, 1) := by decide +kernel
theorem dX10_count_0 : decode cX10_count 0 = .ok (.iload_n 1, 1) := by decide +kernel
theorem dX10_count_1 : decode cX10_count 1 = .ok (.iconst 0, 1) := by decide +kernel
theorem dX10_count_2 : decode cX10_count 2 = .ok (.bipush 6, 2) := by decide +kernel
theorem dX10_count_4 : decode cX10_count 4 = .ok (.invokestatic 81, 3) := by decide +kernel
theorem dX10_count_7 : decode cX10_count 7 = .ok (.ifCond .eq 11, 3) := by decide +kernel
theorem dX10_count_10 : decode cX10_count 10 = .ok (.aload_n 0, 1) := by decide +kernel
theorem dX10_count_11 : decode cX10_count 11 = .ok (.iload_n 1, 1) := by decide +kernel
theorem dX10_count_12 : decode cX10_count 12 = .ok (.invokevirtual 252, 3) := by decide +kernel
theorem dX10_count_15 : decode cX10_count 15 = .ok (.goto 7, 3) := by decide +kernel
theorem dX10_count_18 : decode cX10_count 18 = .ok (.aload_n 0, 1) := by decide +kernel
theorem dX10_count_19 : decode cX10_count 19 = .ok (.invokevirtual 85, 3) := by decide +kernel
theorem dX10_count_22 : decode cX10_count 22 = .ok (.ireturn, 1) := by decide +kernel
theorem dX10_mix_0 : decode cX10_mix 0 = .ok (.aload_n 0, 1) := by decide +kernel
theorem dX10_mix_1 : decode cX10_mix 1 = .ok (.ldc2_w 255, 3) := by decide +kernel
theorem dX10_mix_4 : decode cX10_mix 4 = .ok (.aload_n 0, 1) := by decide +kernel
theorem dX10_mix_5 : decode cX10_mix 5 = .ok (.getfield 257, 3) := by decide +kernel
theorem dX10_mix_8 : decode cX10_mix 8 = .ok (.lmul, 1) := by decide +kernel
theorem dX10_mix_9 : decode cX10_mix 9 = .ok (.lload_n 1, 1) := by decide +kernel
theorem dX10_mix_10 : decode cX10_mix 10 = .ok (.ladd, 1) := by decide +kernel
theorem dX10_mix_11 : decode cX10_mix 11 = .ok (.putfield 257, 3) := by decide +kernel
theorem dX10_mix_14 : decode cX10_mix 14 = .ok (.return_, 1) := by decide +kernel
theorem dX10_digest_0 : decode cX10_digest 0 = .ok (.aload_n 0, 1) := by decide +kernel
theorem dX10_digest_1 : decode cX10_digest 1 = .ok (.ldc2_w 260, 3) := by decide +kernel
theorem dX10_digest_4 : decode cX10_digest 4 = .ok (.putfield 257, 3) := by decide +kernel
theorem dX10_digest_7 : decode cX10_digest 7 = .ok (.iconst 0, 1) := by decide +kernel
theorem dX10_digest_8 : decode cX10_digest 8 = .ok (.istore_n 1, 1) := by decide +kernel
theorem dX10_digest_9 : decode cX10_digest 9 = .ok (.iload_n 1, 1) := by decide +kernel
theorem dX10_digest_10 : decode cX10_digest 10 = .ok (.bipush 6, 2) := by decide +kernel
theorem dX10_digest_12 : decode cX10_digest 12 = .ok (.if_icmp .gt 19, 3) := by decide +kernel
theorem dX10_digest_15 : decode cX10_digest 15 = .ok (.aload_n 0, 1) := by decide +kernel
theorem dX10_digest_16 : decode cX10_digest 16 = .ok (.aload_n 0, 1) := by decide +kernel
theorem dX10_digest_17 : decode cX10_digest 17 = .ok (.iload_n 1, 1) := by decide +kernel
theorem dX10_digest_18 : decode cX10_digest 18 = .ok (.invokevirtual 252, 3) := by decide +kernel
theorem dX10_digest_21 : decode cX10_digest 21 = .ok (.i2l, 1) := by decide +kernel
theorem dX10_digest_22 : decode cX10_digest 22 = .ok (.invokevirtual 262, 3) := by decide +kernel
theorem dX10_digest_25 : decode cX10_digest 25 = .ok (.iinc 1 1, 3) := by decide +kernel
theorem dX10_digest_28 : decode cX10_digest 28 = .ok (.goto (-19), 3) := by decide +kernel
theorem dX10_digest_31 : decode cX10_digest 31 = .ok (.iconst 0, 1) := by decide +kernel
theorem dX10_digest_32 : decode cX10_digest 32 = .ok (.istore_n 1, 1) := by decide +kernel
theorem dX10_digest_33 : decode cX10_digest 33 = .ok (.iload_n 1, 1) := by decide +kernel
theorem dX10_digest_34 : decode cX10_digest 34 = .ok (.aload_n 0, 1) := by decide +kernel
theorem dX10_digest_35 : decode cX10_digest 35 = .ok (.getfield 71, 3) := by decide +kernel
theorem dX10_digest_38 : decode cX10_digest 38 = .ok (.if_icmp .ge 42, 3) := by decide +kernel
theorem dX10_digest_41 : decode cX10_digest 41 = .ok (.aload_n 0, 1) := by decide +kernel
theorem dX10_digest_42 : decode cX10_digest 42 = .ok (.aload_n 0, 1) := by decide +kernel
theorem dX10_digest_43 : decode cX10_digest 43 = .ok (.getfield 13, 3) := by decide +kernel
theorem dX10_digest_46 : decode cX10_digest 46 = .ok (.iload_n 1, 1) := by decide +kernel
theorem dX10_digest_47 : decode cX10_digest 47 = .ok (.iaload, 1) := by decide +kernel
theorem dX10_digest_48 : decode cX10_digest 48 = .ok (.i2l, 1) := by decide +kernel
theorem dX10_digest_49 : decode cX10_digest 49 = .ok (.invokevirtual 262, 3) := by decide +kernel
theorem dX10_digest_52 : decode cX10_digest 52 = .ok (.aload_n 0, 1) := by decide +kernel
theorem dX10_digest_53 : decode cX10_digest 53 = .ok (.aload_n 0, 1) := by decide +kernel
theorem dX10_digest_54 : decode cX10_digest 54 = .ok (.getfield 16, 3) := by decide +kernel
theorem dX10_digest_57 : decode cX10_digest 57 = .ok (.iload_n 1, 1) := by decide +kernel
theorem dX10_digest_58 : decode cX10_digest 58 = .ok (.iaload, 1) := by decide +kernel
theorem dX10_digest_59 : decode cX10_digest 59 = .ok (.i2l, 1) := by decide +kernel
theorem dX10_digest_60 : decode cX10_digest 60 = .ok (.invokevirtual 262, 3) := by decide +kernel
theorem dX10_digest_63 : decode cX10_digest 63 = .ok (.aload_n 0, 1) := by decide +kernel
theorem dX10_digest_64 : decode cX10_digest 64 = .ok (.aload_n 0, 1) := by decide +kernel
theorem dX10_digest_65 : decode cX10_digest 65 = .ok (.getfield 19, 3) := by decide +kernel
theorem dX10_digest_68 : decode cX10_digest 68 = .ok (.iload_n 1, 1) := by decide +kernel
theorem dX10_digest_69 : decode cX10_digest 69 = .ok (.iaload, 1) := by decide +kernel
theorem dX10_digest_70 : decode cX10_digest 70 = .ok (.i2l, 1) := by decide +kernel
theorem dX10_digest_71 : decode cX10_digest 71 = .ok (.invokevirtual 262, 3) := by decide +kernel
theorem dX10_digest_74 : decode cX10_digest 74 = .ok (.iinc 1 1, 3) := by decide +kernel
theorem dX10_digest_77 : decode cX10_digest 77 = .ok (.goto (-44), 3) := by decide +kernel
theorem dX10_digest_80 : decode cX10_digest 80 = .ok (.iconst 0, 1) := by decide +kernel
theorem dX10_digest_81 : decode cX10_digest 81 = .ok (.istore_n 1, 1) := by decide +kernel
theorem dX10_digest_82 : decode cX10_digest 82 = .ok (.iload_n 1, 1) := by decide +kernel
theorem dX10_digest_83 : decode cX10_digest 83 = .ok (.bipush 12, 2) := by decide +kernel
theorem dX10_digest_85 : decode cX10_digest 85 = .ok (.if_icmp .ge 20, 3) := by decide +kernel
theorem dX10_digest_88 : decode cX10_digest 88 = .ok (.aload_n 0, 1) := by decide +kernel
theorem dX10_digest_89 : decode cX10_digest 89 = .ok (.aload_n 0, 1) := by decide +kernel
theorem dX10_digest_90 : decode cX10_digest 90 = .ok (.getfield 22, 3) := by decide +kernel
theorem dX10_digest_93 : decode cX10_digest 93 = .ok (.iload_n 1, 1) := by decide +kernel
theorem dX10_digest_94 : decode cX10_digest 94 = .ok (.iaload, 1) := by decide +kernel
theorem dX10_digest_95 : decode cX10_digest 95 = .ok (.i2l, 1) := by decide +kernel
theorem dX10_digest_96 : decode cX10_digest 96 = .ok (.invokevirtual 262, 3) := by decide +kernel
theorem dX10_digest_99 : decode cX10_digest 99 = .ok (.iinc 1 1, 3) := by decide +kernel
theorem dX10_digest_102 : decode cX10_digest 102 = .ok (.goto (-20), 3) := by decide +kernel
theorem dX10_digest_105 : decode cX10_digest 105 = .ok (.iconst 0, 1) := by decide +kernel
theorem dX10_digest_106 : decode cX10_digest 106 = .ok (.istore_n 1, 1) := by decide +kernel
theorem dX10_digest_107 : decode cX10_digest 107 = .ok (.iload_n 1, 1) := by decide +kernel
theorem dX10_digest_108 : decode cX10_digest 108 = .ok (.aload_n 0, 1) := by decide +kernel
theorem dX10_digest_109 : decode cX10_digest 109 = .ok (.getfield 75, 3) := by decide +kernel
theorem dX10_digest_112 : decode cX10_digest 112 = .ok (.if_icmp .ge 53, 3) := by decide +kernel
theorem dX10_digest_115 : decode cX10_digest 115 = .ok (.aload_n 0, 1) := by decide +kernel
theorem dX10_digest_116 : decode cX10_digest 116 = .ok (.aload_n 0, 1) := by decide +kernel
theorem dX10_digest_117 : decode cX10_digest 117 = .ok (.getfield 25, 3) := by decide +kernel
theorem dX10_digest_120 : decode cX10_digest 120 = .ok (.iload_n 1, 1) := by decide +kernel
theorem dX10_digest_121 : decode cX10_digest 121 = .ok (.iaload, 1) := by decide +kernel
theorem dX10_digest_122 : decode cX10_digest 122 = .ok (.i2l, 1) := by decide +kernel
theorem dX10_digest_123 : decode cX10_digest 123 = .ok (.invokevirtual 262, 3) := by decide +kernel
theorem dX10_digest_126 : decode cX10_digest 126 = .ok (.aload_n 0, 1) := by decide +kernel
theorem dX10_digest_127 : decode cX10_digest 127 = .ok (.aload_n 0, 1) := by decide +kernel
theorem dX10_digest_128 : decode cX10_digest 128 = .ok (.getfield 28, 3) := by decide +kernel
theorem dX10_digest_131 : decode cX10_digest 131 = .ok (.iload_n 1, 1) := by decide +kernel
theorem dX10_digest_132 : decode cX10_digest 132 = .ok (.iaload, 1) := by decide +kernel
theorem dX10_digest_133 : decode cX10_digest 133 = .ok (.i2l, 1) := by decide +kernel
theorem dX10_digest_134 : decode cX10_digest 134 = .ok (.invokevirtual 262, 3) := by decide +kernel
theorem dX10_digest_137 : decode cX10_digest 137 = .ok (.aload_n 0, 1) := by decide +kernel
theorem dX10_digest_138 : decode cX10_digest 138 = .ok (.aload_n 0, 1) := by decide +kernel
theorem dX10_digest_139 : decode cX10_digest 139 = .ok (.getfield 31, 3) := by decide +kernel
theorem dX10_digest_142 : decode cX10_digest 142 = .ok (.iload_n 1, 1) := by decide +kernel
theorem dX10_digest_143 : decode cX10_digest 143 = .ok (.iaload, 1) := by decide +kernel
theorem dX10_digest_144 : decode cX10_digest 144 = .ok (.i2l, 1) := by decide +kernel
theorem dX10_digest_145 : decode cX10_digest 145 = .ok (.invokevirtual 262, 3) := by decide +kernel
theorem dX10_digest_148 : decode cX10_digest 148 = .ok (.aload_n 0, 1) := by decide +kernel
theorem dX10_digest_149 : decode cX10_digest 149 = .ok (.aload_n 0, 1) := by decide +kernel
theorem dX10_digest_150 : decode cX10_digest 150 = .ok (.getfield 34, 3) := by decide +kernel
theorem dX10_digest_153 : decode cX10_digest 153 = .ok (.iload_n 1, 1) := by decide +kernel
theorem dX10_digest_154 : decode cX10_digest 154 = .ok (.iaload, 1) := by decide +kernel
theorem dX10_digest_155 : decode cX10_digest 155 = .ok (.i2l, 1) := by decide +kernel
theorem dX10_digest_156 : decode cX10_digest 156 = .ok (.invokevirtual 262, 3) := by decide +kernel
theorem dX10_digest_159 : decode cX10_digest 159 = .ok (.iinc 1 1, 3) := by decide +kernel
theorem dX10_digest_162 : decode cX10_digest 162 = .ok (.goto (-55), 3) := by decide +kernel
theorem dX10_digest_165 : decode cX10_digest 165 = .ok (.aload_n 0, 1) := by decide +kernel
theorem dX10_digest_166 : decode cX10_digest 166 = .ok (.aload_n 0, 1) := by decide +kernel
theorem dX10_digest_167 : decode cX10_digest 167 = .ok (.getfield 226, 3) := by decide +kernel
theorem dX10_digest_170 : decode cX10_digest 170 = .ok (.invokevirtual 262, 3) := by decide +kernel
theorem dX10_digest_173 : decode cX10_digest 173 = .ok (.aload_n 0, 1) := by decide +kernel
theorem dX10_digest_174 : decode cX10_digest 174 = .ok (.aload_n 0, 1) := by decide +kernel
theorem dX10_digest_175 : decode cX10_digest 175 = .ok (.getfield 58, 3) := by decide +kernel
theorem dX10_digest_178 : decode cX10_digest 178 = .ok (.invokevirtual 262, 3) := by decide +kernel
theorem dX10_digest_181 : decode cX10_digest 181 = .ok (.aload_n 0, 1) := by decide +kernel
theorem dX10_digest_182 : decode cX10_digest 182 = .ok (.getfield 257, 3) := by decide +kernel
theorem dX10_digest_185 : decode cX10_digest 185 = .ok (.lreturn, 1) := by decide +kernel
theorem dL_law_0 : decode cL_law 0 = .ok (.new 7, 3) := by decide +kernel
theorem dL_law_3 : decode cL_law 3 = .ok (.dup, 1) := by decide +kernel
theorem dL_law_4 : decode cL_law 4 = .ok (.invokespecial 9, 3) := by decide +kernel
theorem dL_law_7 : decode cL_law 7 = .ok (.astore_n 1, 1) := by decide +kernel
theorem dL_law_8 : decode cL_law 8 = .ok (.new 10, 3) := by decide +kernel
theorem dL_law_11 : decode cL_law 11 = .ok (.dup, 1) := by decide +kernel
theorem dL_law_12 : decode cL_law 12 = .ok (.invokespecial 12, 3) := by decide +kernel
theorem dL_law_15 : decode cL_law 15 = .ok (.astore_n 2, 1) := by decide +kernel
theorem dL_law_16 : decode cL_law 16 = .ok (.iconst 0, 1) := by decide +kernel
theorem dL_law_17 : decode cL_law 17 = .ok (.istore_n 3, 1) := by decide +kernel
theorem dL_law_18 : decode cL_law 18 = .ok (.iload_n 3, 1) := by decide +kernel
theorem dL_law_19 : decode cL_law 19 = .ok (.aload_n 0, 1) := by decide +kernel
theorem dL_law_20 : decode cL_law 20 = .ok (.arraylength, 1) := by decide +kernel
theorem dL_law_21 : decode cL_law 21 = .ok (.iconst 5, 1) := by decide +kernel
theorem dL_law_22 : decode cL_law 22 = .ok (.isub, 1) := by decide +kernel
theorem dL_law_23 : decode cL_law 23 = .ok (.if_icmp .gt 1031, 3) := by decide +kernel
theorem dL_law_26 : decode cL_law 26 = .ok (.aload_n 0, 1) := by decide +kernel
theorem dL_law_27 : decode cL_law 27 = .ok (.iload_n 3, 1) := by decide +kernel
theorem dL_law_28 : decode cL_law 28 = .ok (.iaload, 1) := by decide +kernel
theorem dL_law_29 : decode cL_law 29 = .ok (.bipush 63, 2) := by decide +kernel
theorem dL_law_31 : decode cL_law 31 = .ok (.iand, 1) := by decide +kernel
theorem dL_law_32 : decode cL_law 32 = .ok (.tableswitch 1016 0 33 #[152, 165, 208, 241, 264, 277, 290, 323, 366, 379, 412, 445, 468, 481, 504, 527, 550, 573, 586, 619, 642, 675, 728, 741, 764, 787, 820, 853, 886, 910, 933, 956, 979, 1002], 152) := by decide +kernel
theorem dL_law_184 : decode cL_law 184 = .ok (.aload_n 1, 1) := by decide +kernel
theorem dL_law_185 : decode cL_law 185 = .ok (.invokevirtual 13, 3) := by decide +kernel
theorem dL_law_188 : decode cL_law 188 = .ok (.aload_n 2, 1) := by decide +kernel
theorem dL_law_189 : decode cL_law 189 = .ok (.invokevirtual 17, 3) := by decide +kernel
theorem dL_law_192 : decode cL_law 192 = .ok (.if_icmp .eq 856, 3) := by decide +kernel
theorem dL_law_195 : decode cL_law 195 = .ok (.iconst 0, 1) := by decide +kernel
theorem dL_law_196 : decode cL_law 196 = .ok (.ireturn, 1) := by decide +kernel
theorem dL_law_197 : decode cL_law 197 = .ok (.aload_n 1, 1) := by decide +kernel
theorem dL_law_198 : decode cL_law 198 = .ok (.aload_n 0, 1) := by decide +kernel
theorem dL_law_199 : decode cL_law 199 = .ok (.iload_n 3, 1) := by decide +kernel
theorem dL_law_200 : decode cL_law 200 = .ok (.iconst 1, 1) := by decide +kernel
theorem dL_law_201 : decode cL_law 201 = .ok (.iadd, 1) := by decide +kernel
theorem dL_law_202 : decode cL_law 202 = .ok (.iaload, 1) := by decide +kernel
theorem dL_law_203 : decode cL_law 203 = .ok (.aload_n 0, 1) := by decide +kernel
theorem dL_law_204 : decode cL_law 204 = .ok (.iload_n 3, 1) := by decide +kernel
theorem dL_law_205 : decode cL_law 205 = .ok (.iconst 2, 1) := by decide +kernel
theorem dL_law_206 : decode cL_law 206 = .ok (.iadd, 1) := by decide +kernel
theorem dL_law_207 : decode cL_law 207 = .ok (.iaload, 1) := by decide +kernel
theorem dL_law_208 : decode cL_law 208 = .ok (.aload_n 0, 1) := by decide +kernel
theorem dL_law_209 : decode cL_law 209 = .ok (.iload_n 3, 1) := by decide +kernel
theorem dL_law_210 : decode cL_law 210 = .ok (.iconst 3, 1) := by decide +kernel
theorem dL_law_211 : decode cL_law 211 = .ok (.iadd, 1) := by decide +kernel
theorem dL_law_212 : decode cL_law 212 = .ok (.iaload, 1) := by decide +kernel
theorem dL_law_213 : decode cL_law 213 = .ok (.invokevirtual 18, 3) := by decide +kernel
theorem dL_law_216 : decode cL_law 216 = .ok (.aload_n 2, 1) := by decide +kernel
theorem dL_law_217 : decode cL_law 217 = .ok (.aload_n 0, 1) := by decide +kernel
theorem dL_law_218 : decode cL_law 218 = .ok (.iload_n 3, 1) := by decide +kernel
theorem dL_law_219 : decode cL_law 219 = .ok (.iconst 1, 1) := by decide +kernel
theorem dL_law_220 : decode cL_law 220 = .ok (.iadd, 1) := by decide +kernel
theorem dL_law_221 : decode cL_law 221 = .ok (.iaload, 1) := by decide +kernel
theorem dL_law_222 : decode cL_law 222 = .ok (.aload_n 0, 1) := by decide +kernel
theorem dL_law_223 : decode cL_law 223 = .ok (.iload_n 3, 1) := by decide +kernel
theorem dL_law_224 : decode cL_law 224 = .ok (.iconst 2, 1) := by decide +kernel
theorem dL_law_225 : decode cL_law 225 = .ok (.iadd, 1) := by decide +kernel
theorem dL_law_226 : decode cL_law 226 = .ok (.iaload, 1) := by decide +kernel
theorem dL_law_227 : decode cL_law 227 = .ok (.aload_n 0, 1) := by decide +kernel
theorem dL_law_228 : decode cL_law 228 = .ok (.iload_n 3, 1) := by decide +kernel
theorem dL_law_229 : decode cL_law 229 = .ok (.iconst 3, 1) := by decide +kernel
theorem dL_law_230 : decode cL_law 230 = .ok (.iadd, 1) := by decide +kernel
theorem dL_law_231 : decode cL_law 231 = .ok (.iaload, 1) := by decide +kernel
theorem dL_law_232 : decode cL_law 232 = .ok (.invokevirtual 22, 3) := by decide +kernel
theorem dL_law_235 : decode cL_law 235 = .ok (.if_icmp .eq 813, 3) := by decide +kernel
theorem dL_law_238 : decode cL_law 238 = .ok (.iconst 0, 1) := by decide +kernel
theorem dL_law_239 : decode cL_law 239 = .ok (.ireturn, 1) := by decide +kernel
theorem dL_law_240 : decode cL_law 240 = .ok (.aload_n 1, 1) := by decide +kernel
theorem dL_law_241 : decode cL_law 241 = .ok (.aload_n 0, 1) := by decide +kernel
theorem dL_law_242 : decode cL_law 242 = .ok (.iload_n 3, 1) := by decide +kernel
theorem dL_law_243 : decode cL_law 243 = .ok (.iconst 1, 1) := by decide +kernel
theorem dL_law_244 : decode cL_law 244 = .ok (.iadd, 1) := by decide +kernel
theorem dL_law_245 : decode cL_law 245 = .ok (.iaload, 1) := by decide +kernel
theorem dL_law_246 : decode cL_law 246 = .ok (.aload_n 0, 1) := by decide +kernel
theorem dL_law_247 : decode cL_law 247 = .ok (.iload_n 3, 1) := by decide +kernel
theorem dL_law_248 : decode cL_law 248 = .ok (.iconst 2, 1) := by decide +kernel
theorem dL_law_249 : decode cL_law 249 = .ok (.iadd, 1) := by decide +kernel
theorem dL_law_250 : decode cL_law 250 = .ok (.iaload, 1) := by decide +kernel
theorem dL_law_251 : decode cL_law 251 = .ok (.invokevirtual 23, 3) := by decide +kernel
theorem dL_law_254 : decode cL_law 254 = .ok (.aload_n 2, 1) := by decide +kernel
theorem dL_law_255 : decode cL_law 255 = .ok (.aload_n 0, 1) := by decide +kernel
theorem dL_law_256 : decode cL_law 256 = .ok (.iload_n 3, 1) := by decide +kernel
theorem dL_law_257 : decode cL_law 257 = .ok (.iconst 1, 1) := by decide +kernel
theorem dL_law_258 : decode cL_law 258 = .ok (.iadd, 1) := by decide +kernel
theorem dL_law_259 : decode cL_law 259 = .ok (.iaload, 1) := by decide +kernel
theorem dL_law_260 : decode cL_law 260 = .ok (.aload_n 0, 1) := by decide +kernel
theorem dL_law_261 : decode cL_law 261 = .ok (.iload_n 3, 1) := by decide +kernel
theorem dL_law_262 : decode cL_law 262 = .ok (.iconst 2, 1) := by decide +kernel
theorem dL_law_263 : decode cL_law 263 = .ok (.iadd, 1) := by decide +kernel
theorem dL_law_264 : decode cL_law 264 = .ok (.iaload, 1) := by decide +kernel
theorem dL_law_265 : decode cL_law 265 = .ok (.invokevirtual 27, 3) := by decide +kernel
theorem dL_law_268 : decode cL_law 268 = .ok (.if_icmp .eq 780, 3) := by decide +kernel
theorem dL_law_271 : decode cL_law 271 = .ok (.iconst 0, 1) := by decide +kernel
theorem dL_law_272 : decode cL_law 272 = .ok (.ireturn, 1) := by decide +kernel
theorem dL_law_273 : decode cL_law 273 = .ok (.aload_n 1, 1) := by decide +kernel
theorem dL_law_274 : decode cL_law 274 = .ok (.aload_n 0, 1) := by decide +kernel
theorem dL_law_275 : decode cL_law 275 = .ok (.iload_n 3, 1) := by decide +kernel
theorem dL_law_276 : decode cL_law 276 = .ok (.iconst 1, 1) := by decide +kernel
theorem dL_law_277 : decode cL_law 277 = .ok (.iadd, 1) := by decide +kernel
theorem dL_law_278 : decode cL_law 278 = .ok (.iaload, 1) := by decide +kernel
theorem dL_law_279 : decode cL_law 279 = .ok (.invokevirtual 28, 3) := by decide +kernel
theorem dL_law_282 : decode cL_law 282 = .ok (.aload_n 2, 1) := by decide +kernel
theorem dL_law_283 : decode cL_law 283 = .ok (.aload_n 0, 1) := by decide +kernel
theorem dL_law_284 : decode cL_law 284 = .ok (.iload_n 3, 1) := by decide +kernel
theorem dL_law_285 : decode cL_law 285 = .ok (.iconst 1, 1) := by decide +kernel
theorem dL_law_286 : decode cL_law 286 = .ok (.iadd, 1) := by decide +kernel
theorem dL_law_287 : decode cL_law 287 = .ok (.iaload, 1) := by decide +kernel
theorem dL_law_288 : decode cL_law 288 = .ok (.invokevirtual 32, 3) := by decide +kernel
theorem dL_law_291 : decode cL_law 291 = .ok (.if_icmp .eq 757, 3) := by decide +kernel
theorem dL_law_294 : decode cL_law 294 = .ok (.iconst 0, 1) := by decide +kernel
theorem dL_law_295 : decode cL_law 295 = .ok (.ireturn, 1) := by decide +kernel
theorem dL_law_296 : decode cL_law 296 = .ok (.aload_n 1, 1) := by decide +kernel
theorem dL_law_297 : decode cL_law 297 = .ok (.invokevirtual 33, 3) := by decide +kernel
theorem dL_law_300 : decode cL_law 300 = .ok (.aload_n 2, 1) := by decide +kernel
theorem dL_law_301 : decode cL_law 301 = .ok (.invokevirtual 36, 3) := by decide +kernel
theorem dL_law_304 : decode cL_law 304 = .ok (.if_icmp .eq 744, 3) := by decide +kernel
theorem dL_law_307 : decode cL_law 307 = .ok (.iconst 0, 1) := by decide +kernel
theorem dL_law_308 : decode cL_law 308 = .ok (.ireturn, 1) := by decide +kernel
theorem dL_law_309 : decode cL_law 309 = .ok (.aload_n 1, 1) := by decide +kernel
theorem dL_law_310 : decode cL_law 310 = .ok (.invokevirtual 37, 3) := by decide +kernel
theorem dL_law_313 : decode cL_law 313 = .ok (.aload_n 2, 1) := by decide +kernel
theorem dL_law_314 : decode cL_law 314 = .ok (.invokevirtual 40, 3) := by decide +kernel
theorem dL_law_317 : decode cL_law 317 = .ok (.if_icmp .eq 731, 3) := by decide +kernel
theorem dL_law_320 : decode cL_law 320 = .ok (.iconst 0, 1) := by decide +kernel
theorem dL_law_321 : decode cL_law 321 = .ok (.ireturn, 1) := by decide +kernel
theorem dL_law_322 : decode cL_law 322 = .ok (.aload_n 1, 1) := by decide +kernel
theorem dL_law_323 : decode cL_law 323 = .ok (.aload_n 0, 1) := by decide +kernel
theorem dL_law_324 : decode cL_law 324 = .ok (.iload_n 3, 1) := by decide +kernel
theorem dL_law_325 : decode cL_law 325 = .ok (.iconst 1, 1) := by decide +kernel
theorem dL_law_326 : decode cL_law 326 = .ok (.iadd, 1) := by decide +kernel
theorem dL_law_327 : decode cL_law 327 = .ok (.iaload, 1) := by decide +kernel
theorem dL_law_328 : decode cL_law 328 = .ok (.aload_n 0, 1) := by decide +kernel
theorem dL_law_329 : decode cL_law 329 = .ok (.iload_n 3, 1) := by decide +kernel
theorem dL_law_330 : decode cL_law 330 = .ok (.iconst 2, 1) := by decide +kernel
theorem dL_law_331 : decode cL_law 331 = .ok (.iadd, 1) := by decide +kernel
theorem dL_law_332 : decode cL_law 332 = .ok (.iaload, 1) := by decide +kernel
theorem dL_law_333 : decode cL_law 333 = .ok (.invokevirtual 41, 3) := by decide +kernel
theorem dL_law_336 : decode cL_law 336 = .ok (.aload_n 2, 1) := by decide +kernel
theorem dL_law_337 : decode cL_law 337 = .ok (.aload_n 0, 1) := by decide +kernel
theorem dL_law_338 : decode cL_law 338 = .ok (.iload_n 3, 1) := by decide +kernel
theorem dL_law_339 : decode cL_law 339 = .ok (.iconst 1, 1) := by decide +kernel
theorem dL_law_340 : decode cL_law 340 = .ok (.iadd, 1) := by decide +kernel
theorem dL_law_341 : decode cL_law 341 = .ok (.iaload, 1) := by decide +kernel
theorem dL_law_342 : decode cL_law 342 = .ok (.aload_n 0, 1) := by decide +kernel
theorem dL_law_343 : decode cL_law 343 = .ok (.iload_n 3, 1) := by decide +kernel
theorem dL_law_344 : decode cL_law 344 = .ok (.iconst 2, 1) := by decide +kernel
theorem dL_law_345 : decode cL_law 345 = .ok (.iadd, 1) := by decide +kernel
theorem dL_law_346 : decode cL_law 346 = .ok (.iaload, 1) := by decide +kernel
theorem dL_law_347 : decode cL_law 347 = .ok (.invokevirtual 44, 3) := by decide +kernel
theorem dL_law_350 : decode cL_law 350 = .ok (.if_icmp .eq 698, 3) := by decide +kernel
theorem dL_law_353 : decode cL_law 353 = .ok (.iconst 0, 1) := by decide +kernel
theorem dL_law_354 : decode cL_law 354 = .ok (.ireturn, 1) := by decide +kernel
theorem dL_law_355 : decode cL_law 355 = .ok (.aload_n 1, 1) := by decide +kernel
theorem dL_law_356 : decode cL_law 356 = .ok (.aload_n 0, 1) := by decide +kernel
theorem dL_law_357 : decode cL_law 357 = .ok (.iload_n 3, 1) := by decide +kernel
theorem dL_law_358 : decode cL_law 358 = .ok (.iconst 1, 1) := by decide +kernel
theorem dL_law_359 : decode cL_law 359 = .ok (.iadd, 1) := by decide +kernel
theorem dL_law_360 : decode cL_law 360 = .ok (.iaload, 1) := by decide +kernel
theorem dL_law_361 : decode cL_law 361 = .ok (.aload_n 0, 1) := by decide +kernel
theorem dL_law_362 : decode cL_law 362 = .ok (.iload_n 3, 1) := by decide +kernel
theorem dL_law_363 : decode cL_law 363 = .ok (.iconst 2, 1) := by decide +kernel
theorem dL_law_364 : decode cL_law 364 = .ok (.iadd, 1) := by decide +kernel
theorem dL_law_365 : decode cL_law 365 = .ok (.iaload, 1) := by decide +kernel
theorem dL_law_366 : decode cL_law 366 = .ok (.aload_n 0, 1) := by decide +kernel
theorem dL_law_367 : decode cL_law 367 = .ok (.iload_n 3, 1) := by decide +kernel
theorem dL_law_368 : decode cL_law 368 = .ok (.iconst 3, 1) := by decide +kernel
theorem dL_law_369 : decode cL_law 369 = .ok (.iadd, 1) := by decide +kernel
theorem dL_law_370 : decode cL_law 370 = .ok (.iaload, 1) := by decide +kernel
theorem dL_law_371 : decode cL_law 371 = .ok (.invokevirtual 45, 3) := by decide +kernel
theorem dL_law_374 : decode cL_law 374 = .ok (.aload_n 2, 1) := by decide +kernel
theorem dL_law_375 : decode cL_law 375 = .ok (.aload_n 0, 1) := by decide +kernel
theorem dL_law_376 : decode cL_law 376 = .ok (.iload_n 3, 1) := by decide +kernel
theorem dL_law_377 : decode cL_law 377 = .ok (.iconst 1, 1) := by decide +kernel
theorem dL_law_378 : decode cL_law 378 = .ok (.iadd, 1) := by decide +kernel
theorem dL_law_379 : decode cL_law 379 = .ok (.iaload, 1) := by decide +kernel
theorem dL_law_380 : decode cL_law 380 = .ok (.aload_n 0, 1) := by decide +kernel
theorem dL_law_381 : decode cL_law 381 = .ok (.iload_n 3, 1) := by decide +kernel
theorem dL_law_382 : decode cL_law 382 = .ok (.iconst 2, 1) := by decide +kernel
theorem dL_law_383 : decode cL_law 383 = .ok (.iadd, 1) := by decide +kernel
theorem dL_law_384 : decode cL_law 384 = .ok (.iaload, 1) := by decide +kernel
theorem dL_law_385 : decode cL_law 385 = .ok (.aload_n 0, 1) := by decide +kernel
theorem dL_law_386 : decode cL_law 386 = .ok (.iload_n 3, 1) := by decide +kernel
theorem dL_law_387 : decode cL_law 387 = .ok (.iconst 3, 1) := by decide +kernel
theorem dL_law_388 : decode cL_law 388 = .ok (.iadd, 1) := by decide +kernel
theorem dL_law_389 : decode cL_law 389 = .ok (.iaload, 1) := by decide +kernel
theorem dL_law_390 : decode cL_law 390 = .ok (.invokevirtual 48, 3) := by decide +kernel
theorem dL_law_393 : decode cL_law 393 = .ok (.if_icmp .eq 655, 3) := by decide +kernel
theorem dL_law_396 : decode cL_law 396 = .ok (.iconst 0, 1) := by decide +kernel
theorem dL_law_397 : decode cL_law 397 = .ok (.ireturn, 1) := by decide +kernel
theorem dL_law_398 : decode cL_law 398 = .ok (.aload_n 1, 1) := by decide +kernel
theorem dL_law_399 : decode cL_law 399 = .ok (.invokevirtual 49, 3) := by decide +kernel
theorem dL_law_402 : decode cL_law 402 = .ok (.aload_n 2, 1) := by decide +kernel
theorem dL_law_403 : decode cL_law 403 = .ok (.invokevirtual 52, 3) := by decide +kernel
theorem dL_law_406 : decode cL_law 406 = .ok (.if_icmp .eq 642, 3) := by decide +kernel
theorem dL_law_409 : decode cL_law 409 = .ok (.iconst 0, 1) := by decide +kernel
theorem dL_law_410 : decode cL_law 410 = .ok (.ireturn, 1) := by decide +kernel
theorem dL_law_411 : decode cL_law 411 = .ok (.aload_n 1, 1) := by decide +kernel
theorem dL_law_412 : decode cL_law 412 = .ok (.aload_n 0, 1) := by decide +kernel
theorem dL_law_413 : decode cL_law 413 = .ok (.iload_n 3, 1) := by decide +kernel
theorem dL_law_414 : decode cL_law 414 = .ok (.iconst 1, 1) := by decide +kernel
theorem dL_law_415 : decode cL_law 415 = .ok (.iadd, 1) := by decide +kernel
theorem dL_law_416 : decode cL_law 416 = .ok (.iaload, 1) := by decide +kernel
theorem dL_law_417 : decode cL_law 417 = .ok (.aload_n 0, 1) := by decide +kernel
theorem dL_law_418 : decode cL_law 418 = .ok (.iload_n 3, 1) := by decide +kernel
theorem dL_law_419 : decode cL_law 419 = .ok (.iconst 2, 1) := by decide +kernel
theorem dL_law_420 : decode cL_law 420 = .ok (.iadd, 1) := by decide +kernel
theorem dL_law_421 : decode cL_law 421 = .ok (.iaload, 1) := by decide +kernel
theorem dL_law_422 : decode cL_law 422 = .ok (.invokevirtual 53, 3) := by decide +kernel
theorem dL_law_425 : decode cL_law 425 = .ok (.aload_n 2, 1) := by decide +kernel
theorem dL_law_426 : decode cL_law 426 = .ok (.aload_n 0, 1) := by decide +kernel
theorem dL_law_427 : decode cL_law 427 = .ok (.iload_n 3, 1) := by decide +kernel
theorem dL_law_428 : decode cL_law 428 = .ok (.iconst 1, 1) := by decide +kernel
theorem dL_law_429 : decode cL_law 429 = .ok (.iadd, 1) := by decide +kernel
theorem dL_law_430 : decode cL_law 430 = .ok (.iaload, 1) := by decide +kernel
theorem dL_law_431 : decode cL_law 431 = .ok (.aload_n 0, 1) := by decide +kernel
theorem dL_law_432 : decode cL_law 432 = .ok (.iload_n 3, 1) := by decide +kernel
theorem dL_law_433 : decode cL_law 433 = .ok (.iconst 2, 1) := by decide +kernel
theorem dL_law_434 : decode cL_law 434 = .ok (.iadd, 1) := by decide +kernel
theorem dL_law_435 : decode cL_law 435 = .ok (.iaload, 1) := by decide +kernel
theorem dL_law_436 : decode cL_law 436 = .ok (.invokevirtual 56, 3) := by decide +kernel
theorem dL_law_439 : decode cL_law 439 = .ok (.if_icmp .eq 609, 3) := by decide +kernel
theorem dL_law_442 : decode cL_law 442 = .ok (.iconst 0, 1) := by decide +kernel
theorem dL_law_443 : decode cL_law 443 = .ok (.ireturn, 1) := by decide +kernel
theorem dL_law_444 : decode cL_law 444 = .ok (.aload_n 1, 1) := by decide +kernel
theorem dL_law_445 : decode cL_law 445 = .ok (.aload_n 0, 1) := by decide +kernel
theorem dL_law_446 : decode cL_law 446 = .ok (.iload_n 3, 1) := by decide +kernel
theorem dL_law_447 : decode cL_law 447 = .ok (.iconst 1, 1) := by decide +kernel
theorem dL_law_448 : decode cL_law 448 = .ok (.iadd, 1) := by decide +kernel
theorem dL_law_449 : decode cL_law 449 = .ok (.iaload, 1) := by decide +kernel
theorem dL_law_450 : decode cL_law 450 = .ok (.aload_n 0, 1) := by decide +kernel
theorem dL_law_451 : decode cL_law 451 = .ok (.iload_n 3, 1) := by decide +kernel
theorem dL_law_452 : decode cL_law 452 = .ok (.iconst 2, 1) := by decide +kernel
theorem dL_law_453 : decode cL_law 453 = .ok (.iadd, 1) := by decide +kernel
theorem dL_law_454 : decode cL_law 454 = .ok (.iaload, 1) := by decide +kernel
theorem dL_law_455 : decode cL_law 455 = .ok (.invokevirtual 57, 3) := by decide +kernel
theorem dL_law_458 : decode cL_law 458 = .ok (.aload_n 2, 1) := by decide +kernel
theorem dL_law_459 : decode cL_law 459 = .ok (.aload_n 0, 1) := by decide +kernel
theorem dL_law_460 : decode cL_law 460 = .ok (.iload_n 3, 1) := by decide +kernel
theorem dL_law_461 : decode cL_law 461 = .ok (.iconst 1, 1) := by decide +kernel
theorem dL_law_462 : decode cL_law 462 = .ok (.iadd, 1) := by decide +kernel
theorem dL_law_463 : decode cL_law 463 = .ok (.iaload, 1) := by decide +kernel
theorem dL_law_464 : decode cL_law 464 = .ok (.aload_n 0, 1) := by decide +kernel
theorem dL_law_465 : decode cL_law 465 = .ok (.iload_n 3, 1) := by decide +kernel
theorem dL_law_466 : decode cL_law 466 = .ok (.iconst 2, 1) := by decide +kernel
theorem dL_law_467 : decode cL_law 467 = .ok (.iadd, 1) := by decide +kernel
theorem dL_law_468 : decode cL_law 468 = .ok (.iaload, 1) := by decide +kernel
theorem dL_law_469 : decode cL_law 469 = .ok (.invokevirtual 60, 3) := by decide +kernel
theorem dL_law_472 : decode cL_law 472 = .ok (.if_icmp .eq 576, 3) := by decide +kernel
theorem dL_law_475 : decode cL_law 475 = .ok (.iconst 0, 1) := by decide +kernel
theorem dL_law_476 : decode cL_law 476 = .ok (.ireturn, 1) := by decide +kernel
theorem dL_law_477 : decode cL_law 477 = .ok (.aload_n 1, 1) := by decide +kernel
theorem dL_law_478 : decode cL_law 478 = .ok (.aload_n 0, 1) := by decide +kernel
theorem dL_law_479 : decode cL_law 479 = .ok (.iload_n 3, 1) := by decide +kernel
theorem dL_law_480 : decode cL_law 480 = .ok (.iconst 1, 1) := by decide +kernel
theorem dL_law_481 : decode cL_law 481 = .ok (.iadd, 1) := by decide +kernel
theorem dL_law_482 : decode cL_law 482 = .ok (.iaload, 1) := by decide +kernel
theorem dL_law_483 : decode cL_law 483 = .ok (.invokevirtual 61, 3) := by decide +kernel
theorem dL_law_486 : decode cL_law 486 = .ok (.aload_n 2, 1) := by decide +kernel
theorem dL_law_487 : decode cL_law 487 = .ok (.aload_n 0, 1) := by decide +kernel
theorem dL_law_488 : decode cL_law 488 = .ok (.iload_n 3, 1) := by decide +kernel
theorem dL_law_489 : decode cL_law 489 = .ok (.iconst 1, 1) := by decide +kernel
theorem dL_law_490 : decode cL_law 490 = .ok (.iadd, 1) := by decide +kernel
theorem dL_law_491 : decode cL_law 491 = .ok (.iaload, 1) := by decide +kernel
theorem dL_law_492 : decode cL_law 492 = .ok (.invokevirtual 64, 3) := by decide +kernel
theorem dL_law_495 : decode cL_law 495 = .ok (.if_icmp .eq 553, 3) := by decide +kernel
theorem dL_law_498 : decode cL_law 498 = .ok (.iconst 0, 1) := by decide +kernel
theorem dL_law_499 : decode cL_law 499 = .ok (.ireturn, 1) := by decide +kernel
theorem dL_law_500 : decode cL_law 500 = .ok (.aload_n 1, 1) := by decide +kernel
theorem dL_law_501 : decode cL_law 501 = .ok (.invokevirtual 65, 3) := by decide +kernel
theorem dL_law_504 : decode cL_law 504 = .ok (.aload_n 2, 1) := by decide +kernel
theorem dL_law_505 : decode cL_law 505 = .ok (.invokevirtual 68, 3) := by decide +kernel
theorem dL_law_508 : decode cL_law 508 = .ok (.if_icmp .eq 540, 3) := by decide +kernel
theorem dL_law_511 : decode cL_law 511 = .ok (.iconst 0, 1) := by decide +kernel
theorem dL_law_512 : decode cL_law 512 = .ok (.ireturn, 1) := by decide +kernel
theorem dL_law_513 : decode cL_law 513 = .ok (.aload_n 1, 1) := by decide +kernel
theorem dL_law_514 : decode cL_law 514 = .ok (.aload_n 0, 1) := by decide +kernel
theorem dL_law_515 : decode cL_law 515 = .ok (.iload_n 3, 1) := by decide +kernel
theorem dL_law_516 : decode cL_law 516 = .ok (.iconst 1, 1) := by decide +kernel
theorem dL_law_517 : decode cL_law 517 = .ok (.iadd, 1) := by decide +kernel
theorem dL_law_518 : decode cL_law 518 = .ok (.iaload, 1) := by decide +kernel
theorem dL_law_519 : decode cL_law 519 = .ok (.invokevirtual 69, 3) := by decide +kernel
theorem dL_law_522 : decode cL_law 522 = .ok (.aload_n 2, 1) := by decide +kernel
theorem dL_law_523 : decode cL_law 523 = .ok (.aload_n 0, 1) := by decide +kernel
theorem dL_law_524 : decode cL_law 524 = .ok (.iload_n 3, 1) := by decide +kernel
theorem dL_law_525 : decode cL_law 525 = .ok (.iconst 1, 1) := by decide +kernel
theorem dL_law_526 : decode cL_law 526 = .ok (.iadd, 1) := by decide +kernel
theorem dL_law_527 : decode cL_law 527 = .ok (.iaload, 1) := by decide +kernel
theorem dL_law_528 : decode cL_law 528 = .ok (.invokevirtual 72, 3) := by decide +kernel
theorem dL_law_531 : decode cL_law 531 = .ok (.if_icmp .eq 517, 3) := by decide +kernel
theorem dL_law_534 : decode cL_law 534 = .ok (.iconst 0, 1) := by decide +kernel
theorem dL_law_535 : decode cL_law 535 = .ok (.ireturn, 1) := by decide +kernel
theorem dL_law_536 : decode cL_law 536 = .ok (.aload_n 1, 1) := by decide +kernel
theorem dL_law_537 : decode cL_law 537 = .ok (.aload_n 0, 1) := by decide +kernel
theorem dL_law_538 : decode cL_law 538 = .ok (.iload_n 3, 1) := by decide +kernel
theorem dL_law_539 : decode cL_law 539 = .ok (.iconst 1, 1) := by decide +kernel
theorem dL_law_540 : decode cL_law 540 = .ok (.iadd, 1) := by decide +kernel
theorem dL_law_541 : decode cL_law 541 = .ok (.iaload, 1) := by decide +kernel
theorem dL_law_542 : decode cL_law 542 = .ok (.invokevirtual 73, 3) := by decide +kernel
theorem dL_law_545 : decode cL_law 545 = .ok (.aload_n 2, 1) := by decide +kernel
theorem dL_law_546 : decode cL_law 546 = .ok (.aload_n 0, 1) := by decide +kernel
theorem dL_law_547 : decode cL_law 547 = .ok (.iload_n 3, 1) := by decide +kernel
theorem dL_law_548 : decode cL_law 548 = .ok (.iconst 1, 1) := by decide +kernel
theorem dL_law_549 : decode cL_law 549 = .ok (.iadd, 1) := by decide +kernel
theorem dL_law_550 : decode cL_law 550 = .ok (.iaload, 1) := by decide +kernel
theorem dL_law_551 : decode cL_law 551 = .ok (.invokevirtual 76, 3) := by decide +kernel
theorem dL_law_554 : decode cL_law 554 = .ok (.if_icmp .eq 494, 3) := by decide +kernel
theorem dL_law_557 : decode cL_law 557 = .ok (.iconst 0, 1) := by decide +kernel
theorem dL_law_558 : decode cL_law 558 = .ok (.ireturn, 1) := by decide +kernel
theorem dL_law_559 : decode cL_law 559 = .ok (.aload_n 1, 1) := by decide +kernel
theorem dL_law_560 : decode cL_law 560 = .ok (.aload_n 0, 1) := by decide +kernel
theorem dL_law_561 : decode cL_law 561 = .ok (.iload_n 3, 1) := by decide +kernel
theorem dL_law_562 : decode cL_law 562 = .ok (.iconst 1, 1) := by decide +kernel
theorem dL_law_563 : decode cL_law 563 = .ok (.iadd, 1) := by decide +kernel
theorem dL_law_564 : decode cL_law 564 = .ok (.iaload, 1) := by decide +kernel
theorem dL_law_565 : decode cL_law 565 = .ok (.invokevirtual 77, 3) := by decide +kernel
theorem dL_law_568 : decode cL_law 568 = .ok (.aload_n 2, 1) := by decide +kernel
theorem dL_law_569 : decode cL_law 569 = .ok (.aload_n 0, 1) := by decide +kernel
theorem dL_law_570 : decode cL_law 570 = .ok (.iload_n 3, 1) := by decide +kernel
theorem dL_law_571 : decode cL_law 571 = .ok (.iconst 1, 1) := by decide +kernel
theorem dL_law_572 : decode cL_law 572 = .ok (.iadd, 1) := by decide +kernel
theorem dL_law_573 : decode cL_law 573 = .ok (.iaload, 1) := by decide +kernel
theorem dL_law_574 : decode cL_law 574 = .ok (.invokevirtual 80, 3) := by decide +kernel
theorem dL_law_577 : decode cL_law 577 = .ok (.if_icmp .eq 471, 3) := by decide +kernel
theorem dL_law_580 : decode cL_law 580 = .ok (.iconst 0, 1) := by decide +kernel
theorem dL_law_581 : decode cL_law 581 = .ok (.ireturn, 1) := by decide +kernel
theorem dL_law_582 : decode cL_law 582 = .ok (.aload_n 1, 1) := by decide +kernel
theorem dL_law_583 : decode cL_law 583 = .ok (.aload_n 0, 1) := by decide +kernel
theorem dL_law_584 : decode cL_law 584 = .ok (.iload_n 3, 1) := by decide +kernel
theorem dL_law_585 : decode cL_law 585 = .ok (.iconst 1, 1) := by decide +kernel
theorem dL_law_586 : decode cL_law 586 = .ok (.iadd, 1) := by decide +kernel
theorem dL_law_587 : decode cL_law 587 = .ok (.iaload, 1) := by decide +kernel
theorem dL_law_588 : decode cL_law 588 = .ok (.invokevirtual 81, 3) := by decide +kernel
theorem dL_law_591 : decode cL_law 591 = .ok (.aload_n 2, 1) := by decide +kernel
theorem dL_law_592 : decode cL_law 592 = .ok (.aload_n 0, 1) := by decide +kernel
theorem dL_law_593 : decode cL_law 593 = .ok (.iload_n 3, 1) := by decide +kernel
theorem dL_law_594 : decode cL_law 594 = .ok (.iconst 1, 1) := by decide +kernel
theorem dL_law_595 : decode cL_law 595 = .ok (.iadd, 1) := by decide +kernel
theorem dL_law_596 : decode cL_law 596 = .ok (.iaload, 1) := by decide +kernel
theorem dL_law_597 : decode cL_law 597 = .ok (.invokevirtual 84, 3) := by decide +kernel
theorem dL_law_600 : decode cL_law 600 = .ok (.if_icmp .eq 448, 3) := by decide +kernel
theorem dL_law_603 : decode cL_law 603 = .ok (.iconst 0, 1) := by decide +kernel
theorem dL_law_604 : decode cL_law 604 = .ok (.ireturn, 1) := by decide +kernel
theorem dL_law_605 : decode cL_law 605 = .ok (.aload_n 1, 1) := by decide +kernel
theorem dL_law_606 : decode cL_law 606 = .ok (.invokevirtual 85, 3) := by decide +kernel
theorem dL_law_609 : decode cL_law 609 = .ok (.aload_n 2, 1) := by decide +kernel
theorem dL_law_610 : decode cL_law 610 = .ok (.invokevirtual 88, 3) := by decide +kernel
theorem dL_law_613 : decode cL_law 613 = .ok (.if_icmp .eq 435, 3) := by decide +kernel
theorem dL_law_616 : decode cL_law 616 = .ok (.iconst 0, 1) := by decide +kernel
theorem dL_law_617 : decode cL_law 617 = .ok (.ireturn, 1) := by decide +kernel
theorem dL_law_618 : decode cL_law 618 = .ok (.aload_n 1, 1) := by decide +kernel
theorem dL_law_619 : decode cL_law 619 = .ok (.aload_n 0, 1) := by decide +kernel
theorem dL_law_620 : decode cL_law 620 = .ok (.iload_n 3, 1) := by decide +kernel
theorem dL_law_621 : decode cL_law 621 = .ok (.iconst 1, 1) := by decide +kernel
theorem dL_law_622 : decode cL_law 622 = .ok (.iadd, 1) := by decide +kernel
theorem dL_law_623 : decode cL_law 623 = .ok (.iaload, 1) := by decide +kernel
theorem dL_law_624 : decode cL_law 624 = .ok (.aload_n 0, 1) := by decide +kernel
theorem dL_law_625 : decode cL_law 625 = .ok (.iload_n 3, 1) := by decide +kernel
theorem dL_law_626 : decode cL_law 626 = .ok (.iconst 2, 1) := by decide +kernel
theorem dL_law_627 : decode cL_law 627 = .ok (.iadd, 1) := by decide +kernel
theorem dL_law_628 : decode cL_law 628 = .ok (.iaload, 1) := by decide +kernel
theorem dL_law_629 : decode cL_law 629 = .ok (.invokevirtual 89, 3) := by decide +kernel
theorem dL_law_632 : decode cL_law 632 = .ok (.aload_n 2, 1) := by decide +kernel
theorem dL_law_633 : decode cL_law 633 = .ok (.aload_n 0, 1) := by decide +kernel
theorem dL_law_634 : decode cL_law 634 = .ok (.iload_n 3, 1) := by decide +kernel
theorem dL_law_635 : decode cL_law 635 = .ok (.iconst 1, 1) := by decide +kernel
theorem dL_law_636 : decode cL_law 636 = .ok (.iadd, 1) := by decide +kernel
theorem dL_law_637 : decode cL_law 637 = .ok (.iaload, 1) := by decide +kernel
theorem dL_law_638 : decode cL_law 638 = .ok (.aload_n 0, 1) := by decide +kernel
theorem dL_law_639 : decode cL_law 639 = .ok (.iload_n 3, 1) := by decide +kernel
theorem dL_law_640 : decode cL_law 640 = .ok (.iconst 2, 1) := by decide +kernel
theorem dL_law_641 : decode cL_law 641 = .ok (.iadd, 1) := by decide +kernel
theorem dL_law_642 : decode cL_law 642 = .ok (.iaload, 1) := by decide +kernel
theorem dL_law_643 : decode cL_law 643 = .ok (.invokevirtual 92, 3) := by decide +kernel
theorem dL_law_646 : decode cL_law 646 = .ok (.if_icmp .eq 402, 3) := by decide +kernel
theorem dL_law_649 : decode cL_law 649 = .ok (.iconst 0, 1) := by decide +kernel
theorem dL_law_650 : decode cL_law 650 = .ok (.ireturn, 1) := by decide +kernel
theorem dL_law_651 : decode cL_law 651 = .ok (.aload_n 1, 1) := by decide +kernel
theorem dL_law_652 : decode cL_law 652 = .ok (.aload_n 0, 1) := by decide +kernel
theorem dL_law_653 : decode cL_law 653 = .ok (.iload_n 3, 1) := by decide +kernel
theorem dL_law_654 : decode cL_law 654 = .ok (.iconst 1, 1) := by decide +kernel
theorem dL_law_655 : decode cL_law 655 = .ok (.iadd, 1) := by decide +kernel
theorem dL_law_656 : decode cL_law 656 = .ok (.iaload, 1) := by decide +kernel
theorem dL_law_657 : decode cL_law 657 = .ok (.invokevirtual 93, 3) := by decide +kernel
theorem dL_law_660 : decode cL_law 660 = .ok (.aload_n 2, 1) := by decide +kernel
theorem dL_law_661 : decode cL_law 661 = .ok (.aload_n 0, 1) := by decide +kernel
theorem dL_law_662 : decode cL_law 662 = .ok (.iload_n 3, 1) := by decide +kernel
theorem dL_law_663 : decode cL_law 663 = .ok (.iconst 1, 1) := by decide +kernel
theorem dL_law_664 : decode cL_law 664 = .ok (.iadd, 1) := by decide +kernel
theorem dL_law_665 : decode cL_law 665 = .ok (.iaload, 1) := by decide +kernel
theorem dL_law_666 : decode cL_law 666 = .ok (.invokevirtual 96, 3) := by decide +kernel
theorem dL_law_669 : decode cL_law 669 = .ok (.if_icmp .eq 379, 3) := by decide +kernel
theorem dL_law_672 : decode cL_law 672 = .ok (.iconst 0, 1) := by decide +kernel
theorem dL_law_673 : decode cL_law 673 = .ok (.ireturn, 1) := by decide +kernel
theorem dL_law_674 : decode cL_law 674 = .ok (.aload_n 1, 1) := by decide +kernel
theorem dL_law_675 : decode cL_law 675 = .ok (.aload_n 0, 1) := by decide +kernel
theorem dL_law_676 : decode cL_law 676 = .ok (.iload_n 3, 1) := by decide +kernel
theorem dL_law_677 : decode cL_law 677 = .ok (.iconst 1, 1) := by decide +kernel
theorem dL_law_678 : decode cL_law 678 = .ok (.iadd, 1) := by decide +kernel
theorem dL_law_679 : decode cL_law 679 = .ok (.iaload, 1) := by decide +kernel
theorem dL_law_680 : decode cL_law 680 = .ok (.aload_n 0, 1) := by decide +kernel
theorem dL_law_681 : decode cL_law 681 = .ok (.iload_n 3, 1) := by decide +kernel
theorem dL_law_682 : decode cL_law 682 = .ok (.iconst 2, 1) := by decide +kernel
theorem dL_law_683 : decode cL_law 683 = .ok (.iadd, 1) := by decide +kernel
theorem dL_law_684 : decode cL_law 684 = .ok (.iaload, 1) := by decide +kernel
theorem dL_law_685 : decode cL_law 685 = .ok (.invokevirtual 97, 3) := by decide +kernel
theorem dL_law_688 : decode cL_law 688 = .ok (.aload_n 2, 1) := by decide +kernel
theorem dL_law_689 : decode cL_law 689 = .ok (.aload_n 0, 1) := by decide +kernel
theorem dL_law_690 : decode cL_law 690 = .ok (.iload_n 3, 1) := by decide +kernel
theorem dL_law_691 : decode cL_law 691 = .ok (.iconst 1, 1) := by decide +kernel
theorem dL_law_692 : decode cL_law 692 = .ok (.iadd, 1) := by decide +kernel
theorem dL_law_693 : decode cL_law 693 = .ok (.iaload, 1) := by decide +kernel
theorem dL_law_694 : decode cL_law 694 = .ok (.aload_n 0, 1) := by decide +kernel
theorem dL_law_695 : decode cL_law 695 = .ok (.iload_n 3, 1) := by decide +kernel
theorem dL_law_696 : decode cL_law 696 = .ok (.iconst 2, 1) := by decide +kernel
theorem dL_law_697 : decode cL_law 697 = .ok (.iadd, 1) := by decide +kernel
theorem dL_law_698 : decode cL_law 698 = .ok (.iaload, 1) := by decide +kernel
theorem dL_law_699 : decode cL_law 699 = .ok (.invokevirtual 100, 3) := by decide +kernel
theorem dL_law_702 : decode cL_law 702 = .ok (.if_icmp .eq 346, 3) := by decide +kernel
theorem dL_law_705 : decode cL_law 705 = .ok (.iconst 0, 1) := by decide +kernel
theorem dL_law_706 : decode cL_law 706 = .ok (.ireturn, 1) := by decide +kernel
theorem dL_law_707 : decode cL_law 707 = .ok (.aload_n 1, 1) := by decide +kernel
theorem dL_law_708 : decode cL_law 708 = .ok (.aload_n 0, 1) := by decide +kernel
theorem dL_law_709 : decode cL_law 709 = .ok (.iload_n 3, 1) := by decide +kernel
theorem dL_law_710 : decode cL_law 710 = .ok (.iconst 1, 1) := by decide +kernel
theorem dL_law_711 : decode cL_law 711 = .ok (.iadd, 1) := by decide +kernel
theorem dL_law_712 : decode cL_law 712 = .ok (.iaload, 1) := by decide +kernel
theorem dL_law_713 : decode cL_law 713 = .ok (.aload_n 0, 1) := by decide +kernel
theorem dL_law_714 : decode cL_law 714 = .ok (.iload_n 3, 1) := by decide +kernel
theorem dL_law_715 : decode cL_law 715 = .ok (.iconst 2, 1) := by decide +kernel
theorem dL_law_716 : decode cL_law 716 = .ok (.iadd, 1) := by decide +kernel
theorem dL_law_717 : decode cL_law 717 = .ok (.iaload, 1) := by decide +kernel
theorem dL_law_718 : decode cL_law 718 = .ok (.aload_n 0, 1) := by decide +kernel
theorem dL_law_719 : decode cL_law 719 = .ok (.iload_n 3, 1) := by decide +kernel
theorem dL_law_720 : decode cL_law 720 = .ok (.iconst 3, 1) := by decide +kernel
theorem dL_law_721 : decode cL_law 721 = .ok (.iadd, 1) := by decide +kernel
theorem dL_law_722 : decode cL_law 722 = .ok (.iaload, 1) := by decide +kernel
theorem dL_law_723 : decode cL_law 723 = .ok (.aload_n 0, 1) := by decide +kernel
theorem dL_law_724 : decode cL_law 724 = .ok (.iload_n 3, 1) := by decide +kernel
theorem dL_law_725 : decode cL_law 725 = .ok (.iconst 4, 1) := by decide +kernel
theorem dL_law_726 : decode cL_law 726 = .ok (.iadd, 1) := by decide +kernel
theorem dL_law_727 : decode cL_law 727 = .ok (.iaload, 1) := by decide +kernel
theorem dL_law_728 : decode cL_law 728 = .ok (.invokevirtual 101, 3) := by decide +kernel
theorem dL_law_731 : decode cL_law 731 = .ok (.aload_n 2, 1) := by decide +kernel
theorem dL_law_732 : decode cL_law 732 = .ok (.aload_n 0, 1) := by decide +kernel
theorem dL_law_733 : decode cL_law 733 = .ok (.iload_n 3, 1) := by decide +kernel
theorem dL_law_734 : decode cL_law 734 = .ok (.iconst 1, 1) := by decide +kernel
theorem dL_law_735 : decode cL_law 735 = .ok (.iadd, 1) := by decide +kernel
theorem dL_law_736 : decode cL_law 736 = .ok (.iaload, 1) := by decide +kernel
theorem dL_law_737 : decode cL_law 737 = .ok (.aload_n 0, 1) := by decide +kernel
theorem dL_law_738 : decode cL_law 738 = .ok (.iload_n 3, 1) := by decide +kernel
theorem dL_law_739 : decode cL_law 739 = .ok (.iconst 2, 1) := by decide +kernel
theorem dL_law_740 : decode cL_law 740 = .ok (.iadd, 1) := by decide +kernel
theorem dL_law_741 : decode cL_law 741 = .ok (.iaload, 1) := by decide +kernel
theorem dL_law_742 : decode cL_law 742 = .ok (.aload_n 0, 1) := by decide +kernel
theorem dL_law_743 : decode cL_law 743 = .ok (.iload_n 3, 1) := by decide +kernel
theorem dL_law_744 : decode cL_law 744 = .ok (.iconst 3, 1) := by decide +kernel
theorem dL_law_745 : decode cL_law 745 = .ok (.iadd, 1) := by decide +kernel
theorem dL_law_746 : decode cL_law 746 = .ok (.iaload, 1) := by decide +kernel
theorem dL_law_747 : decode cL_law 747 = .ok (.aload_n 0, 1) := by decide +kernel
theorem dL_law_748 : decode cL_law 748 = .ok (.iload_n 3, 1) := by decide +kernel
theorem dL_law_749 : decode cL_law 749 = .ok (.iconst 4, 1) := by decide +kernel
theorem dL_law_750 : decode cL_law 750 = .ok (.iadd, 1) := by decide +kernel
theorem dL_law_751 : decode cL_law 751 = .ok (.iaload, 1) := by decide +kernel
theorem dL_law_752 : decode cL_law 752 = .ok (.invokevirtual 105, 3) := by decide +kernel
theorem dL_law_755 : decode cL_law 755 = .ok (.if_icmp .eq 293, 3) := by decide +kernel
theorem dL_law_758 : decode cL_law 758 = .ok (.iconst 0, 1) := by decide +kernel
theorem dL_law_759 : decode cL_law 759 = .ok (.ireturn, 1) := by decide +kernel
theorem dL_law_760 : decode cL_law 760 = .ok (.aload_n 1, 1) := by decide +kernel
theorem dL_law_761 : decode cL_law 761 = .ok (.invokevirtual 106, 3) := by decide +kernel
theorem dL_law_764 : decode cL_law 764 = .ok (.aload_n 2, 1) := by decide +kernel
theorem dL_law_765 : decode cL_law 765 = .ok (.invokevirtual 109, 3) := by decide +kernel
theorem dL_law_768 : decode cL_law 768 = .ok (.if_icmp .eq 280, 3) := by decide +kernel
theorem dL_law_771 : decode cL_law 771 = .ok (.iconst 0, 1) := by decide +kernel
theorem dL_law_772 : decode cL_law 772 = .ok (.ireturn, 1) := by decide +kernel
theorem dL_law_773 : decode cL_law 773 = .ok (.aload_n 1, 1) := by decide +kernel
theorem dL_law_774 : decode cL_law 774 = .ok (.aload_n 0, 1) := by decide +kernel
theorem dL_law_775 : decode cL_law 775 = .ok (.iload_n 3, 1) := by decide +kernel
theorem dL_law_776 : decode cL_law 776 = .ok (.iconst 1, 1) := by decide +kernel
theorem dL_law_777 : decode cL_law 777 = .ok (.iadd, 1) := by decide +kernel
theorem dL_law_778 : decode cL_law 778 = .ok (.iaload, 1) := by decide +kernel
theorem dL_law_779 : decode cL_law 779 = .ok (.invokevirtual 110, 3) := by decide +kernel
theorem dL_law_782 : decode cL_law 782 = .ok (.aload_n 2, 1) := by decide +kernel
theorem dL_law_783 : decode cL_law 783 = .ok (.aload_n 0, 1) := by decide +kernel
theorem dL_law_784 : decode cL_law 784 = .ok (.iload_n 3, 1) := by decide +kernel
theorem dL_law_785 : decode cL_law 785 = .ok (.iconst 1, 1) := by decide +kernel
theorem dL_law_786 : decode cL_law 786 = .ok (.iadd, 1) := by decide +kernel
theorem dL_law_787 : decode cL_law 787 = .ok (.iaload, 1) := by decide +kernel
theorem dL_law_788 : decode cL_law 788 = .ok (.invokevirtual 113, 3) := by decide +kernel
theorem dL_law_791 : decode cL_law 791 = .ok (.if_icmp .eq 257, 3) := by decide +kernel
theorem dL_law_794 : decode cL_law 794 = .ok (.iconst 0, 1) := by decide +kernel
theorem dL_law_795 : decode cL_law 795 = .ok (.ireturn, 1) := by decide +kernel
theorem dL_law_796 : decode cL_law 796 = .ok (.aload_n 1, 1) := by decide +kernel
theorem dL_law_797 : decode cL_law 797 = .ok (.aload_n 0, 1) := by decide +kernel
theorem dL_law_798 : decode cL_law 798 = .ok (.iload_n 3, 1) := by decide +kernel
theorem dL_law_799 : decode cL_law 799 = .ok (.iconst 1, 1) := by decide +kernel
theorem dL_law_800 : decode cL_law 800 = .ok (.iadd, 1) := by decide +kernel
theorem dL_law_801 : decode cL_law 801 = .ok (.iaload, 1) := by decide +kernel
theorem dL_law_802 : decode cL_law 802 = .ok (.invokevirtual 114, 3) := by decide +kernel
theorem dL_law_805 : decode cL_law 805 = .ok (.aload_n 2, 1) := by decide +kernel
theorem dL_law_806 : decode cL_law 806 = .ok (.aload_n 0, 1) := by decide +kernel
theorem dL_law_807 : decode cL_law 807 = .ok (.iload_n 3, 1) := by decide +kernel
theorem dL_law_808 : decode cL_law 808 = .ok (.iconst 1, 1) := by decide +kernel
theorem dL_law_809 : decode cL_law 809 = .ok (.iadd, 1) := by decide +kernel
theorem dL_law_810 : decode cL_law 810 = .ok (.iaload, 1) := by decide +kernel
theorem dL_law_811 : decode cL_law 811 = .ok (.invokevirtual 117, 3) := by decide +kernel
theorem dL_law_814 : decode cL_law 814 = .ok (.if_icmp .eq 234, 3) := by decide +kernel
theorem dL_law_817 : decode cL_law 817 = .ok (.iconst 0, 1) := by decide +kernel
theorem dL_law_818 : decode cL_law 818 = .ok (.ireturn, 1) := by decide +kernel
theorem dL_law_819 : decode cL_law 819 = .ok (.aload_n 1, 1) := by decide +kernel
theorem dL_law_820 : decode cL_law 820 = .ok (.aload_n 0, 1) := by decide +kernel
theorem dL_law_821 : decode cL_law 821 = .ok (.iload_n 3, 1) := by decide +kernel
theorem dL_law_822 : decode cL_law 822 = .ok (.iconst 1, 1) := by decide +kernel
theorem dL_law_823 : decode cL_law 823 = .ok (.iadd, 1) := by decide +kernel
theorem dL_law_824 : decode cL_law 824 = .ok (.iaload, 1) := by decide +kernel
theorem dL_law_825 : decode cL_law 825 = .ok (.aload_n 0, 1) := by decide +kernel
theorem dL_law_826 : decode cL_law 826 = .ok (.iload_n 3, 1) := by decide +kernel
theorem dL_law_827 : decode cL_law 827 = .ok (.iconst 2, 1) := by decide +kernel
theorem dL_law_828 : decode cL_law 828 = .ok (.iadd, 1) := by decide +kernel
theorem dL_law_829 : decode cL_law 829 = .ok (.iaload, 1) := by decide +kernel
theorem dL_law_830 : decode cL_law 830 = .ok (.invokevirtual 118, 3) := by decide +kernel
theorem dL_law_833 : decode cL_law 833 = .ok (.aload_n 2, 1) := by decide +kernel
theorem dL_law_834 : decode cL_law 834 = .ok (.aload_n 0, 1) := by decide +kernel
theorem dL_law_835 : decode cL_law 835 = .ok (.iload_n 3, 1) := by decide +kernel
theorem dL_law_836 : decode cL_law 836 = .ok (.iconst 1, 1) := by decide +kernel
theorem dL_law_837 : decode cL_law 837 = .ok (.iadd, 1) := by decide +kernel
theorem dL_law_838 : decode cL_law 838 = .ok (.iaload, 1) := by decide +kernel
theorem dL_law_839 : decode cL_law 839 = .ok (.aload_n 0, 1) := by decide +kernel
theorem dL_law_840 : decode cL_law 840 = .ok (.iload_n 3, 1) := by decide +kernel
theorem dL_law_841 : decode cL_law 841 = .ok (.iconst 2, 1) := by decide +kernel
theorem dL_law_842 : decode cL_law 842 = .ok (.iadd, 1) := by decide +kernel
theorem dL_law_843 : decode cL_law 843 = .ok (.iaload, 1) := by decide +kernel
theorem dL_law_844 : decode cL_law 844 = .ok (.invokevirtual 121, 3) := by decide +kernel
theorem dL_law_847 : decode cL_law 847 = .ok (.if_icmp .eq 201, 3) := by decide +kernel
theorem dL_law_850 : decode cL_law 850 = .ok (.iconst 0, 1) := by decide +kernel
theorem dL_law_851 : decode cL_law 851 = .ok (.ireturn, 1) := by decide +kernel
theorem dL_law_852 : decode cL_law 852 = .ok (.aload_n 1, 1) := by decide +kernel
theorem dL_law_853 : decode cL_law 853 = .ok (.aload_n 0, 1) := by decide +kernel
theorem dL_law_854 : decode cL_law 854 = .ok (.iload_n 3, 1) := by decide +kernel
theorem dL_law_855 : decode cL_law 855 = .ok (.iconst 1, 1) := by decide +kernel
theorem dL_law_856 : decode cL_law 856 = .ok (.iadd, 1) := by decide +kernel
theorem dL_law_857 : decode cL_law 857 = .ok (.iaload, 1) := by decide +kernel
theorem dL_law_858 : decode cL_law 858 = .ok (.aload_n 0, 1) := by decide +kernel
theorem dL_law_859 : decode cL_law 859 = .ok (.iload_n 3, 1) := by decide +kernel
theorem dL_law_860 : decode cL_law 860 = .ok (.iconst 2, 1) := by decide +kernel
theorem dL_law_861 : decode cL_law 861 = .ok (.iadd, 1) := by decide +kernel
theorem dL_law_862 : decode cL_law 862 = .ok (.iaload, 1) := by decide +kernel
theorem dL_law_863 : decode cL_law 863 = .ok (.invokevirtual 122, 3) := by decide +kernel
theorem dL_law_866 : decode cL_law 866 = .ok (.aload_n 2, 1) := by decide +kernel
theorem dL_law_867 : decode cL_law 867 = .ok (.aload_n 0, 1) := by decide +kernel
theorem dL_law_868 : decode cL_law 868 = .ok (.iload_n 3, 1) := by decide +kernel
theorem dL_law_869 : decode cL_law 869 = .ok (.iconst 1, 1) := by decide +kernel
theorem dL_law_870 : decode cL_law 870 = .ok (.iadd, 1) := by decide +kernel
theorem dL_law_871 : decode cL_law 871 = .ok (.iaload, 1) := by decide +kernel
theorem dL_law_872 : decode cL_law 872 = .ok (.aload_n 0, 1) := by decide +kernel
theorem dL_law_873 : decode cL_law 873 = .ok (.iload_n 3, 1) := by decide +kernel
theorem dL_law_874 : decode cL_law 874 = .ok (.iconst 2, 1) := by decide +kernel
theorem dL_law_875 : decode cL_law 875 = .ok (.iadd, 1) := by decide +kernel
theorem dL_law_876 : decode cL_law 876 = .ok (.iaload, 1) := by decide +kernel
theorem dL_law_877 : decode cL_law 877 = .ok (.invokevirtual 125, 3) := by decide +kernel
theorem dL_law_880 : decode cL_law 880 = .ok (.if_icmp .eq 168, 3) := by decide +kernel
theorem dL_law_883 : decode cL_law 883 = .ok (.iconst 0, 1) := by decide +kernel
theorem dL_law_884 : decode cL_law 884 = .ok (.ireturn, 1) := by decide +kernel
theorem dL_law_885 : decode cL_law 885 = .ok (.aload_n 1, 1) := by decide +kernel
theorem dL_law_886 : decode cL_law 886 = .ok (.aload_n 0, 1) := by decide +kernel
theorem dL_law_887 : decode cL_law 887 = .ok (.iload_n 3, 1) := by decide +kernel
theorem dL_law_888 : decode cL_law 888 = .ok (.iconst 1, 1) := by decide +kernel
theorem dL_law_889 : decode cL_law 889 = .ok (.iadd, 1) := by decide +kernel
theorem dL_law_890 : decode cL_law 890 = .ok (.iaload, 1) := by decide +kernel
theorem dL_law_891 : decode cL_law 891 = .ok (.aload_n 0, 1) := by decide +kernel
theorem dL_law_892 : decode cL_law 892 = .ok (.iload_n 3, 1) := by decide +kernel
theorem dL_law_893 : decode cL_law 893 = .ok (.iconst 2, 1) := by decide +kernel
theorem dL_law_894 : decode cL_law 894 = .ok (.iadd, 1) := by decide +kernel
theorem dL_law_895 : decode cL_law 895 = .ok (.iaload, 1) := by decide +kernel
theorem dL_law_896 : decode cL_law 896 = .ok (.invokevirtual 126, 3) := by decide +kernel
theorem dL_law_899 : decode cL_law 899 = .ok (.aload_n 2, 1) := by decide +kernel
theorem dL_law_900 : decode cL_law 900 = .ok (.aload_n 0, 1) := by decide +kernel
theorem dL_law_901 : decode cL_law 901 = .ok (.iload_n 3, 1) := by decide +kernel
theorem dL_law_902 : decode cL_law 902 = .ok (.iconst 1, 1) := by decide +kernel
theorem dL_law_903 : decode cL_law 903 = .ok (.iadd, 1) := by decide +kernel
theorem dL_law_904 : decode cL_law 904 = .ok (.iaload, 1) := by decide +kernel
theorem dL_law_905 : decode cL_law 905 = .ok (.aload_n 0, 1) := by decide +kernel
theorem dL_law_906 : decode cL_law 906 = .ok (.iload_n 3, 1) := by decide +kernel
theorem dL_law_907 : decode cL_law 907 = .ok (.iconst 2, 1) := by decide +kernel
theorem dL_law_908 : decode cL_law 908 = .ok (.iadd, 1) := by decide +kernel
theorem dL_law_909 : decode cL_law 909 = .ok (.iaload, 1) := by decide +kernel
theorem dL_law_910 : decode cL_law 910 = .ok (.invokevirtual 129, 3) := by decide +kernel
theorem dL_law_913 : decode cL_law 913 = .ok (.if_icmp .eq 135, 3) := by decide +kernel
theorem dL_law_916 : decode cL_law 916 = .ok (.iconst 0, 1) := by decide +kernel
theorem dL_law_917 : decode cL_law 917 = .ok (.ireturn, 1) := by decide +kernel
theorem dL_law_918 : decode cL_law 918 = .ok (.aload_n 1, 1) := by decide +kernel
theorem dL_law_919 : decode cL_law 919 = .ok (.aload_n 0, 1) := by decide +kernel
theorem dL_law_920 : decode cL_law 920 = .ok (.iload_n 3, 1) := by decide +kernel
theorem dL_law_921 : decode cL_law 921 = .ok (.iconst 1, 1) := by decide +kernel
theorem dL_law_922 : decode cL_law 922 = .ok (.iadd, 1) := by decide +kernel
theorem dL_law_923 : decode cL_law 923 = .ok (.iaload, 1) := by decide +kernel
theorem dL_law_924 : decode cL_law 924 = .ok (.invokevirtual 130, 3) := by decide +kernel
theorem dL_law_927 : decode cL_law 927 = .ok (.aload_n 2, 1) := by decide +kernel
theorem dL_law_928 : decode cL_law 928 = .ok (.aload_n 0, 1) := by decide +kernel
theorem dL_law_929 : decode cL_law 929 = .ok (.iload_n 3, 1) := by decide +kernel
theorem dL_law_930 : decode cL_law 930 = .ok (.iconst 1, 1) := by decide +kernel
theorem dL_law_931 : decode cL_law 931 = .ok (.iadd, 1) := by decide +kernel
theorem dL_law_932 : decode cL_law 932 = .ok (.iaload, 1) := by decide +kernel
theorem dL_law_933 : decode cL_law 933 = .ok (.invokevirtual 134, 3) := by decide +kernel
theorem dL_law_936 : decode cL_law 936 = .ok (.lcmp, 1) := by decide +kernel
theorem dL_law_937 : decode cL_law 937 = .ok (.ifCond .eq 111, 3) := by decide +kernel
theorem dL_law_940 : decode cL_law 940 = .ok (.iconst 0, 1) := by decide +kernel
theorem dL_law_941 : decode cL_law 941 = .ok (.ireturn, 1) := by decide +kernel
theorem dL_law_942 : decode cL_law 942 = .ok (.aload_n 1, 1) := by decide +kernel
theorem dL_law_943 : decode cL_law 943 = .ok (.aload_n 0, 1) := by decide +kernel
theorem dL_law_944 : decode cL_law 944 = .ok (.iload_n 3, 1) := by decide +kernel
theorem dL_law_945 : decode cL_law 945 = .ok (.iconst 1, 1) := by decide +kernel
theorem dL_law_946 : decode cL_law 946 = .ok (.iadd, 1) := by decide +kernel
theorem dL_law_947 : decode cL_law 947 = .ok (.iaload, 1) := by decide +kernel
theorem dL_law_948 : decode cL_law 948 = .ok (.invokevirtual 135, 3) := by decide +kernel
theorem dL_law_951 : decode cL_law 951 = .ok (.aload_n 2, 1) := by decide +kernel
theorem dL_law_952 : decode cL_law 952 = .ok (.aload_n 0, 1) := by decide +kernel
theorem dL_law_953 : decode cL_law 953 = .ok (.iload_n 3, 1) := by decide +kernel
theorem dL_law_954 : decode cL_law 954 = .ok (.iconst 1, 1) := by decide +kernel
theorem dL_law_955 : decode cL_law 955 = .ok (.iadd, 1) := by decide +kernel
theorem dL_law_956 : decode cL_law 956 = .ok (.iaload, 1) := by decide +kernel
theorem dL_law_957 : decode cL_law 957 = .ok (.invokevirtual 138, 3) := by decide +kernel
theorem dL_law_960 : decode cL_law 960 = .ok (.if_icmp .eq 88, 3) := by decide +kernel
theorem dL_law_963 : decode cL_law 963 = .ok (.iconst 0, 1) := by decide +kernel
theorem dL_law_964 : decode cL_law 964 = .ok (.ireturn, 1) := by decide +kernel
theorem dL_law_965 : decode cL_law 965 = .ok (.aload_n 1, 1) := by decide +kernel
theorem dL_law_966 : decode cL_law 966 = .ok (.aload_n 0, 1) := by decide +kernel
theorem dL_law_967 : decode cL_law 967 = .ok (.iload_n 3, 1) := by decide +kernel
theorem dL_law_968 : decode cL_law 968 = .ok (.iconst 1, 1) := by decide +kernel
theorem dL_law_969 : decode cL_law 969 = .ok (.iadd, 1) := by decide +kernel
theorem dL_law_970 : decode cL_law 970 = .ok (.iaload, 1) := by decide +kernel
theorem dL_law_971 : decode cL_law 971 = .ok (.invokevirtual 139, 3) := by decide +kernel
theorem dL_law_974 : decode cL_law 974 = .ok (.aload_n 2, 1) := by decide +kernel
theorem dL_law_975 : decode cL_law 975 = .ok (.aload_n 0, 1) := by decide +kernel
theorem dL_law_976 : decode cL_law 976 = .ok (.iload_n 3, 1) := by decide +kernel
theorem dL_law_977 : decode cL_law 977 = .ok (.iconst 1, 1) := by decide +kernel
theorem dL_law_978 : decode cL_law 978 = .ok (.iadd, 1) := by decide +kernel
theorem dL_law_979 : decode cL_law 979 = .ok (.iaload, 1) := by decide +kernel
theorem dL_law_980 : decode cL_law 980 = .ok (.invokevirtual 142, 3) := by decide +kernel
theorem dL_law_983 : decode cL_law 983 = .ok (.if_icmp .eq 65, 3) := by decide +kernel
theorem dL_law_986 : decode cL_law 986 = .ok (.iconst 0, 1) := by decide +kernel
theorem dL_law_987 : decode cL_law 987 = .ok (.ireturn, 1) := by decide +kernel
theorem dL_law_988 : decode cL_law 988 = .ok (.aload_n 1, 1) := by decide +kernel
theorem dL_law_989 : decode cL_law 989 = .ok (.aload_n 0, 1) := by decide +kernel
theorem dL_law_990 : decode cL_law 990 = .ok (.iload_n 3, 1) := by decide +kernel
theorem dL_law_991 : decode cL_law 991 = .ok (.iconst 1, 1) := by decide +kernel
theorem dL_law_992 : decode cL_law 992 = .ok (.iadd, 1) := by decide +kernel
theorem dL_law_993 : decode cL_law 993 = .ok (.iaload, 1) := by decide +kernel
theorem dL_law_994 : decode cL_law 994 = .ok (.invokevirtual 143, 3) := by decide +kernel
theorem dL_law_997 : decode cL_law 997 = .ok (.aload_n 2, 1) := by decide +kernel
theorem dL_law_998 : decode cL_law 998 = .ok (.aload_n 0, 1) := by decide +kernel
theorem dL_law_999 : decode cL_law 999 = .ok (.iload_n 3, 1) := by decide +kernel
theorem dL_law_1000 : decode cL_law 1000 = .ok (.iconst 1, 1) := by decide +kernel
theorem dL_law_1001 : decode cL_law 1001 = .ok (.iadd, 1) := by decide +kernel
theorem dL_law_1002 : decode cL_law 1002 = .ok (.iaload, 1) := by decide +kernel
theorem dL_law_1003 : decode cL_law 1003 = .ok (.invokevirtual 146, 3) := by decide +kernel
theorem dL_law_1006 : decode cL_law 1006 = .ok (.if_icmp .eq 42, 3) := by decide +kernel
theorem dL_law_1009 : decode cL_law 1009 = .ok (.iconst 0, 1) := by decide +kernel
theorem dL_law_1010 : decode cL_law 1010 = .ok (.ireturn, 1) := by decide +kernel
theorem dL_law_1011 : decode cL_law 1011 = .ok (.aload_n 1, 1) := by decide +kernel
theorem dL_law_1012 : decode cL_law 1012 = .ok (.aload_n 0, 1) := by decide +kernel
theorem dL_law_1013 : decode cL_law 1013 = .ok (.iload_n 3, 1) := by decide +kernel
theorem dL_law_1014 : decode cL_law 1014 = .ok (.iconst 1, 1) := by decide +kernel
theorem dL_law_1015 : decode cL_law 1015 = .ok (.iadd, 1) := by decide +kernel
theorem dL_law_1016 : decode cL_law 1016 = .ok (.iaload, 1) := by decide +kernel
theorem dL_law_1017 : decode cL_law 1017 = .ok (.invokevirtual 147, 3) := by decide +kernel
theorem dL_law_1020 : decode cL_law 1020 = .ok (.aload_n 2, 1) := by decide +kernel
theorem dL_law_1021 : decode cL_law 1021 = .ok (.aload_n 0, 1) := by decide +kernel
theorem dL_law_1022 : decode cL_law 1022 = .ok (.iload_n 3, 1) := by decide +kernel
theorem dL_law_1023 : decode cL_law 1023 = .ok (.iconst 1, 1) := by decide +kernel
theorem dL_law_1024 : decode cL_law 1024 = .ok (.iadd, 1) := by decide +kernel
theorem dL_law_1025 : decode cL_law 1025 = .ok (.iaload, 1) := by decide +kernel
theorem dL_law_1026 : decode cL_law 1026 = .ok (.invokevirtual 150, 3) := by decide +kernel
theorem dL_law_1029 : decode cL_law 1029 = .ok (.if_icmp .eq 19, 3) := by decide +kernel
theorem dL_law_1032 : decode cL_law 1032 = .ok (.iconst 0, 1) := by decide +kernel
theorem dL_law_1033 : decode cL_law 1033 = .ok (.ireturn, 1) := by decide +kernel
theorem dL_law_1034 : decode cL_law 1034 = .ok (.aload_n 1, 1) := by decide +kernel
theorem dL_law_1035 : decode cL_law 1035 = .ok (.invokevirtual 151, 3) := by decide +kernel
theorem dL_law_1038 : decode cL_law 1038 = .ok (.aload_n 2, 1) := by decide +kernel
theorem dL_law_1039 : decode cL_law 1039 = .ok (.invokevirtual 155, 3) := by decide +kernel
theorem dL_law_1042 : decode cL_law 1042 = .ok (.lcmp, 1) := by decide +kernel
theorem dL_law_1043 : decode cL_law 1043 = .ok (.ifCond .eq 5, 3) := by decide +kernel
theorem dL_law_1046 : decode cL_law 1046 = .ok (.iconst 0, 1) := by decide +kernel
theorem dL_law_1047 : decode cL_law 1047 = .ok (.ireturn, 1) := by decide +kernel
theorem dL_law_1048 : decode cL_law 1048 = .ok (.iinc 3 5, 3) := by decide +kernel
theorem dL_law_1051 : decode cL_law 1051 = .ok (.goto (-1033), 3) := by decide +kernel
theorem dL_law_1054 : decode cL_law 1054 = .ok (.iconst 1, 1) := by decide +kernel
theorem dL_law_1055 : decode cL_law 1055 = .ok (.ireturn, 1) := by decide +kernel
